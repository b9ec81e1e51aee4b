/-! printed contracts, by dc.py -/
/-- X0_sortIn -/
def E_3 (x1 : Int) (M : Mm) (Q : Mm → Prop) : Prop := Ev 3 3 [.inr (.inr (0, 0)), .inl x1] M (rV Q)
theorem m_3 {x1 : Int} {M : Mm} {Q Q1 : Mm → Prop} (h : E_3 x1 M Q) (k : (∀ M1, Q M1 → Q1 M1)) : E_3 x1 M Q1 := Ev.mono h (fun v M1 h => ⟨h.1, k _ h.2⟩)
theorem s_3_0 {x1 : Int} {M : Mm} {Q : Mm → Prop} (h : ((inR (atN 340 (M.1 100 0) x1 * 13) ∧ inR (atN 340 (M.1 100 0) x1 * 13 + atN 340 (M.1 101 0) x1)) ∧ (∀ x2 : Int, x2 = atN 340 (M.1 100 0) x1 * 13 + atN 340 (M.1 101 0) x1 → (∀ x3 : Int, x3 = atN 52 (M.1 106 0) x2 → ((x3 ≠ atN 53 (M.1 105 0) x2 → (∀ M1_4 : Mm, M1_4 = setA M 104 0 (putN 340 (M.1 104 0) x3 x1) → (((-2147483648 ≤ x3 + 1 ∧ x3 + 1 ≤ 2147483647)) ∧ (∀ M1_5 : Mm, M1_5 = setA M1_4 106 0 (putN 52 (M1_4.1 106 0) x2 (x3 + 1)) → (Q M1_5))))) ∧ (x3 = atN 53 (M.1 105 0) x2 → (∀ M1 : Mm, M1 = setA M 107 0 (putN 52 (M.1 107 0) (M.1 0 0 9) x2) → (((-2147483648 ≤ (M1.1 0 0 9) + 1 ∧ (M1.1 0 0 9) + 1 ≤ 2147483647)) ∧ (∀ M1_1 : Mm, M1_1 = setI M1 0 0 9 ((M1.1 0 0 9) + 1) → (∀ M1_2 : Mm, M1_2 = setA M1_1 104 0 (putN 340 (M1_1.1 104 0) x3 x1) → (((-2147483648 ≤ x3 + 1 ∧ x3 + 1 ≤ 2147483647)) ∧ (∀ M1_3 : Mm, M1_3 = setA M1_2 106 0 (putN 52 (M1_2.1 106 0) x2 (x3 + 1)) → (Q M1_3))))))))))))) : E_3 x1 M Q := by
  show Wp 3 3 0 [some (.inr (.inr (0, 0))), some (.inl x1), none, none] [] M (rV Q)
  refine Wp.path (k := 2) [] (C := []) (pc' := 2) (ls' := [some (.inr (.inr (0, 0))), some (.inl x1), none, none]) (st' := [.inl x1, .inr (.inr (0, 0))]) (M' := M) rfl trivial ?_
  refine Wp.call (e2 h.1.1 h.1.2) rfl rfl (by decide) ?_
  replace h := h.2
  rintro v_ M_ ⟨eM_, ev_⟩
  rw [eM_, ev_]
  clear eM_ ev_ v_ M_
  show Wp 3 3 5 [some (.inr (.inr (0, 0))), some (.inl x1), none, none] [.inl (atN 340 (M.1 100 0) x1 * 13 + atN 340 (M.1 101 0) x1)] M (rV Q)
  refine Wp.path (k := 1) [] (C := []) (pc' := 6) (ls' := [some (.inr (.inr (0, 0))), some (.inl x1), some (.inl (atN 340 (M.1 100 0) x1 * 13 + atN 340 (M.1 101 0) x1)), none]) (st' := []) (M' := M) rfl trivial ?_
  refine Bd (P := fun x2 : Int => Wp 3 3 6 [some (.inr (.inr (0, 0))), some (.inl x1), some (.inl x2), none] [] M (rV Q)) ?_
  intro x2 e_x2
  replace h := h x2 e_x2
  refine Wp.path (k := 3) [] (C := []) (pc' := 11) (ls' := [some (.inr (.inr (0, 0))), some (.inl x1), some (.inl x2), none]) (st' := [.inl x2, .inr (.inr (106, 0))]) (M' := M) rfl trivial ?_
  refine Wp.call (at_106) rfl rfl (by decide) ?_
  rintro v_ M_ ⟨eM_, ev_⟩
  rw [eM_, ev_]
  clear eM_ ev_ v_ M_
  show Wp 3 3 14 [some (.inr (.inr (0, 0))), some (.inl x1), some (.inl x2), none] [.inl (atN 52 (M.1 106 0) x2)] M (rV Q)
  refine Wp.path (k := 1) [] (C := []) (pc' := 15) (ls' := [some (.inr (.inr (0, 0))), some (.inl x1), some (.inl x2), some (.inl (atN 52 (M.1 106 0) x2))]) (st' := []) (M' := M) rfl trivial ?_
  refine Bd (P := fun x3 : Int => Wp 3 3 15 [some (.inr (.inr (0, 0))), some (.inl x1), some (.inl x2), some (.inl x3)] [] M (rV Q)) ?_
  intro x3 e_x3
  replace h := h x3 e_x3
  refine Wp.path (k := 4) [] (C := []) (pc' := 21) (ls' := [some (.inr (.inr (0, 0))), some (.inl x1), some (.inl x2), some (.inl x3)]) (st' := [.inl x2, .inr (.inr (105, 0)), .inl x3]) (M' := M) rfl trivial ?_
  refine Wp.call (at_105) rfl rfl (by decide) ?_
  rintro v_ M_ ⟨eM_, ev_⟩
  rw [eM_, ev_]
  clear eM_ ev_ v_ M_
  show Wp 3 3 24 [some (.inr (.inr (0, 0))), some (.inl x1), some (.inl x2), some (.inl x3)] [.inl (atN 53 (M.1 105 0) x2), .inl x3] M (rV Q)
  rcases Decidable.em (x3 = atN 53 (M.1 105 0) x2) with c_1 | c_1
  · replace h := h.2 c_1
    refine Wp.path (k := 1) [0] (C := [x3 = atN 53 (M.1 105 0) x2]) (pc' := 27) (ls' := [some (.inr (.inr (0, 0))), some (.inl x1), some (.inl x2), some (.inl x3)]) (st' := []) (M' := M) rfl c_1 ?_
    refine Wp.path (k := 5) [] (C := []) (pc' := 36) (ls' := [some (.inr (.inr (0, 0))), some (.inl x1), some (.inl x2), some (.inl x3)]) (st' := [.inl x2, .inl (M.1 0 0 9), .inr (.inr (107, 0))]) (M' := M) rfl trivial ?_
    refine Wp.call (put_107) rfl rfl (by decide) ?_
    rintro v_ M_ ⟨eM_, ev_⟩
    rw [eM_, ev_]
    clear eM_ ev_ v_ M_
    refine Bd (e := setA M 107 0 (putN 52 (M.1 107 0) (M.1 0 0 9) x2)) (P := fun M1 : Mm => Wp 3 3 39 [some (.inr (.inr (0, 0))), some (.inl x1), some (.inl x2), some (.inl x3)] [] M1 (rV Q)) ?_
    intro M1 e_M1
    replace h := h M1 e_M1
    refine Wp.path (k := 6) [] (C := [inR ((M1.1 0 0 9) + 1)]) (pc' := 49) (ls' := [some (.inr (.inr (0, 0))), some (.inl x1), some (.inl x2), some (.inl x3)]) (st' := []) (M' := setI M1 0 0 9 ((M1.1 0 0 9) + 1)) rfl h.1 ?_
    replace h := h.2
    refine Bd (P := fun M1_1 : Mm => Wp 3 3 49 [some (.inr (.inr (0, 0))), some (.inl x1), some (.inl x2), some (.inl x3)] [] M1_1 (rV Q)) ?_
    intro M1_1 e_M1_1
    replace h := h M1_1 e_M1_1
    refine Wp.path (k := 4) [] (C := []) (pc' := 55) (ls' := [some (.inr (.inr (0, 0))), some (.inl x1), some (.inl x2), some (.inl x3)]) (st' := [.inl x1, .inl x3, .inr (.inr (104, 0))]) (M' := M1_1) rfl trivial ?_
    refine Wp.call (put_104) rfl rfl (by decide) ?_
    rintro v_ M_ ⟨eM_, ev_⟩
    rw [eM_, ev_]
    clear eM_ ev_ v_ M_
    refine Bd (e := setA M1_1 104 0 (putN 340 (M1_1.1 104 0) x3 x1)) (P := fun M1_2 : Mm => Wp 3 3 58 [some (.inr (.inr (0, 0))), some (.inl x1), some (.inl x2), some (.inl x3)] [] M1_2 (rV Q)) ?_
    intro M1_2 e_M1_2
    replace h := h M1_2 e_M1_2
    refine Wp.path (k := 6) [] (C := [inR (x3 + 1)]) (pc' := 66) (ls' := [some (.inr (.inr (0, 0))), some (.inl x1), some (.inl x2), some (.inl x3)]) (st' := [.inl (x3 + 1), .inl x2, .inr (.inr (106, 0))]) (M' := M1_2) rfl h.1 ?_
    replace h := h.2
    refine Wp.call (put_106) rfl rfl (by decide) ?_
    rintro v_ M_ ⟨eM_, ev_⟩
    rw [eM_, ev_]
    clear eM_ ev_ v_ M_
    refine Bd (e := setA M1_2 106 0 (putN 52 (M1_2.1 106 0) x2 (x3 + 1))) (P := fun M1_3 : Mm => Wp 3 3 69 [some (.inr (.inr (0, 0))), some (.inl x1), some (.inl x2), some (.inl x3)] [] M1_3 (rV Q)) ?_
    intro M1_3 e_M1_3
    replace h := h M1_3 e_M1_3
    exact Wp.ret rfl ⟨rfl, h⟩
  · replace h := h.1 c_1
    refine Wp.path (k := 1) [1] (C := [x3 ≠ atN 53 (M.1 105 0) x2]) (pc' := 49) (ls' := [some (.inr (.inr (0, 0))), some (.inl x1), some (.inl x2), some (.inl x3)]) (st' := []) (M' := M) rfl c_1 ?_
    refine Wp.path (k := 4) [] (C := []) (pc' := 55) (ls' := [some (.inr (.inr (0, 0))), some (.inl x1), some (.inl x2), some (.inl x3)]) (st' := [.inl x1, .inl x3, .inr (.inr (104, 0))]) (M' := M) rfl trivial ?_
    refine Wp.call (put_104) rfl rfl (by decide) ?_
    rintro v_ M_ ⟨eM_, ev_⟩
    rw [eM_, ev_]
    clear eM_ ev_ v_ M_
    refine Bd (e := setA M 104 0 (putN 340 (M.1 104 0) x3 x1)) (P := fun M1_4 : Mm => Wp 3 3 58 [some (.inr (.inr (0, 0))), some (.inl x1), some (.inl x2), some (.inl x3)] [] M1_4 (rV Q)) ?_
    intro M1_4 e_M1_4
    replace h := h M1_4 e_M1_4
    refine Wp.path (k := 6) [] (C := [inR (x3 + 1)]) (pc' := 66) (ls' := [some (.inr (.inr (0, 0))), some (.inl x1), some (.inl x2), some (.inl x3)]) (st' := [.inl (x3 + 1), .inl x2, .inr (.inr (106, 0))]) (M' := M1_4) rfl h.1 ?_
    replace h := h.2
    refine Wp.call (put_106) rfl rfl (by decide) ?_
    rintro v_ M_ ⟨eM_, ev_⟩
    rw [eM_, ev_]
    clear eM_ ev_ v_ M_
    refine Bd (e := setA M1_4 106 0 (putN 52 (M1_4.1 106 0) x2 (x3 + 1))) (P := fun M1_5 : Mm => Wp 3 3 69 [some (.inr (.inr (0, 0))), some (.inl x1), some (.inl x2), some (.inl x3)] [] M1_5 (rV Q)) ?_
    intro M1_5 e_M1_5
    replace h := h M1_5 e_M1_5
    exact Wp.ret rfl ⟨rfl, h⟩
/-- X0_build -/
def E_1 (i1 : Nat) (M : Mm) (Q : Mm → Prop) : Prop := Ev 4 1 [.inr (.inr (0, 0)), .inr (.inr (2, i1))] M (rV Q)
theorem m_1 {i1 : Nat} {M : Mm} {Q Q1 : Mm → Prop} (h : E_1 i1 M Q) (k : (∀ M1, Q M1 → Q1 M1)) : E_1 i1 M Q1 := Ev.mono h (fun v M1 h => ⟨h.1, k _ h.2⟩)
def L_1_23 (i1 : Nat) (x2 : Int) (M : Mm) (Q : Mm → Prop) : Prop := ∀ o3 : Option Vv, Wp 4 1 23 [some (.inr (.inr (0, 0))), some (.inr (.inr (2, i1))), some (.inl x2), o3] [] M (rV Q)
def L_1_126 (i1 : Nat) (x2 : Int) (M : Mm) (Q : Mm → Prop) : Prop := ∀ o3 : Option Vv, Wp 4 1 126 [some (.inr (.inr (0, 0))), some (.inr (.inr (2, i1))), some (.inl x2), o3] [] M (rV Q)
def L_1_185 (i1 : Nat) (x2 : Int) (M : Mm) (Q : Mm → Prop) : Prop := ∀ o3 : Option Vv, Wp 4 1 185 [some (.inr (.inr (0, 0))), some (.inr (.inr (2, i1))), some (.inl x2), o3] [] M (rV Q)
theorem s_1_0 {i1 : Nat} {M : Mm} {Q : Mm → Prop} (h : (∀ M1 : Mm, M1 = setI M 0 0 8 (M.1 2 i1 13) → (∀ M1_1 : Mm, M1_1 = setI M1 0 0 9 0 → (∀ M1_2 : Mm, M1_2 = setA M1_1 105 0 (upTo (fun _ => 0) (M1_1.1 105 0) 53) → (L_1_23 i1 0 M1_2 Q))))) : E_1 i1 M Q := by
  show Wp 4 1 0 [some (.inr (.inr (0, 0))), some (.inr (.inr (2, i1))), none, none] [] M (rV Q)
  refine Wp.path (k := 4) [] (C := []) (pc' := 8) (ls' := [some (.inr (.inr (0, 0))), some (.inr (.inr (2, i1))), none, none]) (st' := []) (M' := setI M 0 0 8 (M.1 2 i1 13)) rfl trivial ?_
  refine Bd (P := fun M1 : Mm => Wp 4 1 8 [some (.inr (.inr (0, 0))), some (.inr (.inr (2, i1))), none, none] [] M1 (rV Q)) ?_
  intro M1 e_M1
  replace h := h M1 e_M1
  refine Wp.path (k := 3) [] (C := []) (pc' := 13) (ls' := [some (.inr (.inr (0, 0))), some (.inr (.inr (2, i1))), none, none]) (st' := []) (M' := setI M1 0 0 9 0) rfl trivial ?_
  refine Bd (P := fun M1_1 : Mm => Wp 4 1 13 [some (.inr (.inr (0, 0))), some (.inr (.inr (2, i1))), none, none] [] M1_1 (rV Q)) ?_
  intro M1_1 e_M1_1
  replace h := h M1_1 e_M1_1
  refine Wp.path (k := 3) [] (C := []) (pc' := 18) (ls' := [some (.inr (.inr (0, 0))), some (.inr (.inr (2, i1))), none, none]) (st' := [.inl 0, .inr (.inr (105, 0))]) (M' := M1_1) rfl trivial ?_
  refine Wp.call (fill_105) rfl rfl (by decide) ?_
  rintro v_ M_ ⟨eM_, ev_⟩
  rw [eM_, ev_]
  clear eM_ ev_ v_ M_
  refine Bd (e := setA M1_1 105 0 (upTo (fun _ => 0) (M1_1.1 105 0) 53)) (P := fun M1_2 : Mm => Wp 4 1 21 [some (.inr (.inr (0, 0))), some (.inr (.inr (2, i1))), none, none] [] M1_2 (rV Q)) ?_
  intro M1_2 e_M1_2
  replace h := h M1_2 e_M1_2
  refine Wp.path (k := 2) [] (C := []) (pc' := 23) (ls' := [some (.inr (.inr (0, 0))), some (.inr (.inr (2, i1))), some (.inl 0), none]) (st' := []) (M' := M1_2) rfl trivial ?_
  exact h _
theorem s_1_23 {i1 : Nat} {x2 : Int} {M : Mm} {Q : Mm → Prop} (h : ((M.1 0 0 8 ≤ x2 → (L_1_126 i1 0 M Q)) ∧ (x2 < M.1 0 0 8 → (∀ M1 : Mm, M1 = setA M 100 0 (putN 340 (M.1 100 0) x2 (atN 340 (M.1 305 i1) x2)) → ((-1 ≤ (atN 340 (M1.1 306 i1) x2) ∧ (atN 340 (M1.1 306 i1) x2) ≤ 1000) ∧ (∀ M1_1 : Mm, M1_1 = setA M1 101 0 (putN 340 (M1.1 101 0) x2 (unitV (atN 340 (M1.1 306 i1) x2))) → ((-1 ≤ (atN 340 (M1_1.1 307 i1) x2) ∧ (atN 340 (M1_1.1 307 i1) x2) ≤ 1000) ∧ (∀ M1_2 : Mm, M1_2 = setA M1_1 102 0 (putN 340 (M1_1.1 102 0) x2 (unitV (atN 340 (M1_1.1 307 i1) x2))) → ((-1 ≤ (atN 340 (M1_2.1 308 i1) x2) ∧ (atN 340 (M1_2.1 308 i1) x2) ≤ 1000) ∧ (∀ M1_3 : Mm, M1_3 = setA M1_2 103 0 (putN 340 (M1_2.1 103 0) x2 (unitV (atN 340 (M1_2.1 308 i1) x2))) → ((inR (atN 340 (M1_3.1 100 0) x2 * 13) ∧ inR (atN 340 (M1_3.1 100 0) x2 * 13 + atN 340 (M1_3.1 101 0) x2)) ∧ (((-2147483648 ≤ (atN 340 (M1_3.1 100 0) x2 * 13 + atN 340 (M1_3.1 101 0) x2) + 1 ∧ (atN 340 (M1_3.1 100 0) x2 * 13 + atN 340 (M1_3.1 101 0) x2) + 1 ≤ 2147483647)) ∧ (∀ x3 : Int, x3 = (atN 340 (M1_3.1 100 0) x2 * 13 + atN 340 (M1_3.1 101 0) x2) + 1 → (((-2147483648 ≤ (atN 53 (M1_3.1 105 0) x3) + 1 ∧ (atN 53 (M1_3.1 105 0) x3) + 1 ≤ 2147483647)) ∧ (∀ M1_4 : Mm, M1_4 = setA M1_3 105 0 (putN 53 (M1_3.1 105 0) x3 ((atN 53 (M1_3.1 105 0) x3) + 1)) → (((-2147483648 ≤ x2 + 1 ∧ x2 + 1 ≤ 2147483647)) ∧ (L_1_23 i1 (x2 + 1) M1_4 Q))))))))))))))))) : L_1_23 i1 x2 M Q := by
  intro o3
  show Wp 4 1 23 [some (.inr (.inr (0, 0))), some (.inr (.inr (2, i1))), some (.inl x2), o3] [] M (rV Q)
  refine Wp.path (k := 3) [] (C := []) (pc' := 28) (ls' := [some (.inr (.inr (0, 0))), some (.inr (.inr (2, i1))), some (.inl x2), o3]) (st' := [.inl (M.1 0 0 8), .inl x2]) (M' := M) rfl trivial ?_
  rcases Int.lt_or_le (x2) (M.1 0 0 8) with c_1 | c_1
  · replace h := h.2 c_1
    refine Wp.path (k := 1) [0] (C := [x2 < M.1 0 0 8]) (pc' := 31) (ls' := [some (.inr (.inr (0, 0))), some (.inr (.inr (2, i1))), some (.inl x2), o3]) (st' := []) (M' := M) rfl c_1 ?_
    refine Wp.path (k := 5) [] (C := []) (pc' := 38) (ls' := [some (.inr (.inr (0, 0))), some (.inr (.inr (2, i1))), some (.inl x2), o3]) (st' := [.inl x2, .inr (.inr (2, i1)), .inl x2, .inr (.inr (100, 0))]) (M' := M) rfl trivial ?_
    refine Wp.call (e212) rfl rfl (by decide) ?_
    rintro v_ M_ ⟨eM_, ev_⟩
    rw [eM_, ev_]
    clear eM_ ev_ v_ M_
    show Wp 4 1 41 [some (.inr (.inr (0, 0))), some (.inr (.inr (2, i1))), some (.inl x2), o3] [.inl (atN 340 (M.1 305 i1) x2), .inl x2, .inr (.inr (100, 0))] M (rV Q)
    refine Wp.call (put_100) rfl rfl (by decide) ?_
    rintro v_ M_ ⟨eM_, ev_⟩
    rw [eM_, ev_]
    clear eM_ ev_ v_ M_
    refine Bd (e := setA M 100 0 (putN 340 (M.1 100 0) x2 (atN 340 (M.1 305 i1) x2))) (P := fun M1 : Mm => Wp 4 1 44 [some (.inr (.inr (0, 0))), some (.inr (.inr (2, i1))), some (.inl x2), o3] [] M1 (rV Q)) ?_
    intro M1 e_M1
    replace h := h M1 e_M1
    refine Wp.path (k := 5) [] (C := []) (pc' := 51) (ls' := [some (.inr (.inr (0, 0))), some (.inr (.inr (2, i1))), some (.inl x2), o3]) (st' := [.inl x2, .inr (.inr (2, i1)), .inl x2, .inr (.inr (101, 0))]) (M' := M1) rfl trivial ?_
    refine Wp.call (e213) rfl rfl (by decide) ?_
    rintro v_ M_ ⟨eM_, ev_⟩
    rw [eM_, ev_]
    clear eM_ ev_ v_ M_
    show Wp 4 1 54 [some (.inr (.inr (0, 0))), some (.inr (.inr (2, i1))), some (.inl x2), o3] [.inl (atN 340 (M1.1 306 i1) x2), .inl x2, .inr (.inr (101, 0))] M1 (rV Q)
    refine Wp.call (e943 h.1.1 h.1.2) rfl rfl (by decide) ?_
    replace h := h.2
    rintro v_ M_ ⟨eM_, ev_⟩
    rw [eM_, ev_]
    clear eM_ ev_ v_ M_
    show Wp 4 1 57 [some (.inr (.inr (0, 0))), some (.inr (.inr (2, i1))), some (.inl x2), o3] [.inl (unitV (atN 340 (M1.1 306 i1) x2)), .inl x2, .inr (.inr (101, 0))] M1 (rV Q)
    refine Wp.call (put_101) rfl rfl (by decide) ?_
    rintro v_ M_ ⟨eM_, ev_⟩
    rw [eM_, ev_]
    clear eM_ ev_ v_ M_
    refine Bd (e := setA M1 101 0 (putN 340 (M1.1 101 0) x2 (unitV (atN 340 (M1.1 306 i1) x2)))) (P := fun M1_1 : Mm => Wp 4 1 60 [some (.inr (.inr (0, 0))), some (.inr (.inr (2, i1))), some (.inl x2), o3] [] M1_1 (rV Q)) ?_
    intro M1_1 e_M1_1
    replace h := h M1_1 e_M1_1
    refine Wp.path (k := 5) [] (C := []) (pc' := 67) (ls' := [some (.inr (.inr (0, 0))), some (.inr (.inr (2, i1))), some (.inl x2), o3]) (st' := [.inl x2, .inr (.inr (2, i1)), .inl x2, .inr (.inr (102, 0))]) (M' := M1_1) rfl trivial ?_
    refine Wp.call (e214) rfl rfl (by decide) ?_
    rintro v_ M_ ⟨eM_, ev_⟩
    rw [eM_, ev_]
    clear eM_ ev_ v_ M_
    show Wp 4 1 70 [some (.inr (.inr (0, 0))), some (.inr (.inr (2, i1))), some (.inl x2), o3] [.inl (atN 340 (M1_1.1 307 i1) x2), .inl x2, .inr (.inr (102, 0))] M1_1 (rV Q)
    refine Wp.call (e943 h.1.1 h.1.2) rfl rfl (by decide) ?_
    replace h := h.2
    rintro v_ M_ ⟨eM_, ev_⟩
    rw [eM_, ev_]
    clear eM_ ev_ v_ M_
    show Wp 4 1 73 [some (.inr (.inr (0, 0))), some (.inr (.inr (2, i1))), some (.inl x2), o3] [.inl (unitV (atN 340 (M1_1.1 307 i1) x2)), .inl x2, .inr (.inr (102, 0))] M1_1 (rV Q)
    refine Wp.call (put_102) rfl rfl (by decide) ?_
    rintro v_ M_ ⟨eM_, ev_⟩
    rw [eM_, ev_]
    clear eM_ ev_ v_ M_
    refine Bd (e := setA M1_1 102 0 (putN 340 (M1_1.1 102 0) x2 (unitV (atN 340 (M1_1.1 307 i1) x2)))) (P := fun M1_2 : Mm => Wp 4 1 76 [some (.inr (.inr (0, 0))), some (.inr (.inr (2, i1))), some (.inl x2), o3] [] M1_2 (rV Q)) ?_
    intro M1_2 e_M1_2
    replace h := h M1_2 e_M1_2
    refine Wp.path (k := 5) [] (C := []) (pc' := 83) (ls' := [some (.inr (.inr (0, 0))), some (.inr (.inr (2, i1))), some (.inl x2), o3]) (st' := [.inl x2, .inr (.inr (2, i1)), .inl x2, .inr (.inr (103, 0))]) (M' := M1_2) rfl trivial ?_
    refine Wp.call (e215) rfl rfl (by decide) ?_
    rintro v_ M_ ⟨eM_, ev_⟩
    rw [eM_, ev_]
    clear eM_ ev_ v_ M_
    show Wp 4 1 86 [some (.inr (.inr (0, 0))), some (.inr (.inr (2, i1))), some (.inl x2), o3] [.inl (atN 340 (M1_2.1 308 i1) x2), .inl x2, .inr (.inr (103, 0))] M1_2 (rV Q)
    refine Wp.call (e943 h.1.1 h.1.2) rfl rfl (by decide) ?_
    replace h := h.2
    rintro v_ M_ ⟨eM_, ev_⟩
    rw [eM_, ev_]
    clear eM_ ev_ v_ M_
    show Wp 4 1 89 [some (.inr (.inr (0, 0))), some (.inr (.inr (2, i1))), some (.inl x2), o3] [.inl (unitV (atN 340 (M1_2.1 308 i1) x2)), .inl x2, .inr (.inr (103, 0))] M1_2 (rV Q)
    refine Wp.call (put_103) rfl rfl (by decide) ?_
    rintro v_ M_ ⟨eM_, ev_⟩
    rw [eM_, ev_]
    clear eM_ ev_ v_ M_
    refine Bd (e := setA M1_2 103 0 (putN 340 (M1_2.1 103 0) x2 (unitV (atN 340 (M1_2.1 308 i1) x2)))) (P := fun M1_3 : Mm => Wp 4 1 92 [some (.inr (.inr (0, 0))), some (.inr (.inr (2, i1))), some (.inl x2), o3] [] M1_3 (rV Q)) ?_
    intro M1_3 e_M1_3
    replace h := h M1_3 e_M1_3
    refine Wp.path (k := 2) [] (C := []) (pc' := 94) (ls' := [some (.inr (.inr (0, 0))), some (.inr (.inr (2, i1))), some (.inl x2), o3]) (st' := [.inl x2, .inr (.inr (0, 0))]) (M' := M1_3) rfl trivial ?_
    refine Wp.call (e2 h.1.1 h.1.2) rfl rfl (by decide) ?_
    replace h := h.2
    rintro v_ M_ ⟨eM_, ev_⟩
    rw [eM_, ev_]
    clear eM_ ev_ v_ M_
    show Wp 4 1 97 [some (.inr (.inr (0, 0))), some (.inr (.inr (2, i1))), some (.inl x2), o3] [.inl (atN 340 (M1_3.1 100 0) x2 * 13 + atN 340 (M1_3.1 101 0) x2)] M1_3 (rV Q)
    refine Wp.path (k := 3) [] (C := [inR ((atN 340 (M1_3.1 100 0) x2 * 13 + atN 340 (M1_3.1 101 0) x2) + 1)]) (pc' := 100) (ls' := [some (.inr (.inr (0, 0))), some (.inr (.inr (2, i1))), some (.inl x2), some (.inl ((atN 340 (M1_3.1 100 0) x2 * 13 + atN 340 (M1_3.1 101 0) x2) + 1))]) (st' := []) (M' := M1_3) rfl h.1 ?_
    replace h := h.2
    refine Bd (P := fun x3 : Int => Wp 4 1 100 [some (.inr (.inr (0, 0))), some (.inr (.inr (2, i1))), some (.inl x2), some (.inl x3)] [] M1_3 (rV Q)) ?_
    intro x3 e_x3
    replace h := h x3 e_x3
    refine Wp.path (k := 6) [] (C := []) (pc' := 110) (ls' := [some (.inr (.inr (0, 0))), some (.inr (.inr (2, i1))), some (.inl x2), some (.inl x3)]) (st' := [.inl x3, .inr (.inr (105, 0)), .inl x3, .inr (.inr (105, 0))]) (M' := M1_3) rfl trivial ?_
    refine Wp.call (at_105) rfl rfl (by decide) ?_
    rintro v_ M_ ⟨eM_, ev_⟩
    rw [eM_, ev_]
    clear eM_ ev_ v_ M_
    show Wp 4 1 113 [some (.inr (.inr (0, 0))), some (.inr (.inr (2, i1))), some (.inl x2), some (.inl x3)] [.inl (atN 53 (M1_3.1 105 0) x3), .inl x3, .inr (.inr (105, 0))] M1_3 (rV Q)
    refine Wp.path (k := 2) [] (C := [inR ((atN 53 (M1_3.1 105 0) x3) + 1)]) (pc' := 115) (ls' := [some (.inr (.inr (0, 0))), some (.inr (.inr (2, i1))), some (.inl x2), some (.inl x3)]) (st' := [.inl ((atN 53 (M1_3.1 105 0) x3) + 1), .inl x3, .inr (.inr (105, 0))]) (M' := M1_3) rfl h.1 ?_
    replace h := h.2
    refine Wp.call (put_105) rfl rfl (by decide) ?_
    rintro v_ M_ ⟨eM_, ev_⟩
    rw [eM_, ev_]
    clear eM_ ev_ v_ M_
    refine Bd (e := setA M1_3 105 0 (putN 53 (M1_3.1 105 0) x3 ((atN 53 (M1_3.1 105 0) x3) + 1))) (P := fun M1_4 : Mm => Wp 4 1 118 [some (.inr (.inr (0, 0))), some (.inr (.inr (2, i1))), some (.inl x2), some (.inl x3)] [] M1_4 (rV Q)) ?_
    intro M1_4 e_M1_4
    replace h := h M1_4 e_M1_4
    refine Wp.path (k := 2) [] (C := [inR (x2 + 1)]) (pc' := 23) (ls' := [some (.inr (.inr (0, 0))), some (.inr (.inr (2, i1))), some (.inl (x2 + 1)), some (.inl x3)]) (st' := []) (M' := M1_4) rfl h.1 ?_
    replace h := h.2
    exact h _
  · replace h := h.1 c_1
    refine Wp.path (k := 1) [1] (C := [M.1 0 0 8 ≤ x2]) (pc' := 124) (ls' := [some (.inr (.inr (0, 0))), some (.inr (.inr (2, i1))), some (.inl x2), o3]) (st' := []) (M' := M) rfl c_1 ?_
    refine Wp.path (k := 2) [] (C := []) (pc' := 126) (ls' := [some (.inr (.inr (0, 0))), some (.inr (.inr (2, i1))), some (.inl 0), o3]) (st' := []) (M' := M) rfl trivial ?_
    exact h _
theorem s_1_126 {i1 : Nat} {x2 : Int} {M : Mm} {Q : Mm → Prop} (h : ((52 ≤ x2 → (L_1_185 i1 0 M Q)) ∧ (x2 < 52 → (((-2147483648 ≤ x2 + 1 ∧ x2 + 1 ≤ 2147483647)) ∧ (((-2147483648 ≤ x2 + 1 ∧ x2 + 1 ≤ 2147483647)) ∧ (((-2147483648 ≤ (atN 53 (M.1 105 0) x2) + (atN 53 (M.1 105 0) (x2 + 1)) ∧ (atN 53 (M.1 105 0) x2) + (atN 53 (M.1 105 0) (x2 + 1)) ≤ 2147483647)) ∧ (∀ M1 : Mm, M1 = setA M 105 0 (putN 53 (M.1 105 0) (x2 + 1) ((atN 53 (M.1 105 0) x2) + (atN 53 (M.1 105 0) (x2 + 1)))) → (∀ M1_1 : Mm, M1_1 = setA M1 106 0 (putN 52 (M1.1 106 0) x2 (atN 53 (M1.1 105 0) x2)) → (((-2147483648 ≤ x2 + 1 ∧ x2 + 1 ≤ 2147483647)) ∧ (L_1_126 i1 (x2 + 1) M1_1 Q)))))))))) : L_1_126 i1 x2 M Q := by
  intro o3
  show Wp 4 1 126 [some (.inr (.inr (0, 0))), some (.inr (.inr (2, i1))), some (.inl x2), o3] [] M (rV Q)
  refine Wp.path (k := 2) [] (C := []) (pc' := 129) (ls' := [some (.inr (.inr (0, 0))), some (.inr (.inr (2, i1))), some (.inl x2), o3]) (st' := [.inl 52, .inl x2]) (M' := M) rfl trivial ?_
  rcases Int.lt_or_le (x2) (52) with c_1 | c_1
  · replace h := h.2 c_1
    refine Wp.path (k := 1) [0] (C := [x2 < 52]) (pc' := 132) (ls' := [some (.inr (.inr (0, 0))), some (.inr (.inr (2, i1))), some (.inl x2), o3]) (st' := []) (M' := M) rfl c_1 ?_
    refine Wp.path (k := 8) [] (C := [inR (x2 + 1)]) (pc' := 144) (ls' := [some (.inr (.inr (0, 0))), some (.inr (.inr (2, i1))), some (.inl x2), o3]) (st' := [.inl x2, .inr (.inr (105, 0)), .inl (x2 + 1), .inr (.inr (105, 0))]) (M' := M) rfl h.1 ?_
    replace h := h.2
    refine Wp.call (at_105) rfl rfl (by decide) ?_
    rintro v_ M_ ⟨eM_, ev_⟩
    rw [eM_, ev_]
    clear eM_ ev_ v_ M_
    show Wp 4 1 147 [some (.inr (.inr (0, 0))), some (.inr (.inr (2, i1))), some (.inl x2), o3] [.inl (atN 53 (M.1 105 0) x2), .inl (x2 + 1), .inr (.inr (105, 0))] M (rV Q)
    refine Wp.path (k := 5) [] (C := [inR (x2 + 1)]) (pc' := 154) (ls' := [some (.inr (.inr (0, 0))), some (.inr (.inr (2, i1))), some (.inl x2), o3]) (st' := [.inl (x2 + 1), .inr (.inr (105, 0)), .inl (atN 53 (M.1 105 0) x2), .inl (x2 + 1), .inr (.inr (105, 0))]) (M' := M) rfl h.1 ?_
    replace h := h.2
    refine Wp.call (at_105) rfl rfl (by decide) ?_
    rintro v_ M_ ⟨eM_, ev_⟩
    rw [eM_, ev_]
    clear eM_ ev_ v_ M_
    show Wp 4 1 157 [some (.inr (.inr (0, 0))), some (.inr (.inr (2, i1))), some (.inl x2), o3] [.inl (atN 53 (M.1 105 0) (x2 + 1)), .inl (atN 53 (M.1 105 0) x2), .inl (x2 + 1), .inr (.inr (105, 0))] M (rV Q)
    refine Wp.path (k := 1) [] (C := [inR ((atN 53 (M.1 105 0) x2) + (atN 53 (M.1 105 0) (x2 + 1)))]) (pc' := 158) (ls' := [some (.inr (.inr (0, 0))), some (.inr (.inr (2, i1))), some (.inl x2), o3]) (st' := [.inl ((atN 53 (M.1 105 0) x2) + (atN 53 (M.1 105 0) (x2 + 1))), .inl (x2 + 1), .inr (.inr (105, 0))]) (M' := M) rfl h.1 ?_
    replace h := h.2
    refine Wp.call (put_105) rfl rfl (by decide) ?_
    rintro v_ M_ ⟨eM_, ev_⟩
    rw [eM_, ev_]
    clear eM_ ev_ v_ M_
    refine Bd (e := setA M 105 0 (putN 53 (M.1 105 0) (x2 + 1) ((atN 53 (M.1 105 0) x2) + (atN 53 (M.1 105 0) (x2 + 1))))) (P := fun M1 : Mm => Wp 4 1 161 [some (.inr (.inr (0, 0))), some (.inr (.inr (2, i1))), some (.inl x2), o3] [] M1 (rV Q)) ?_
    intro M1 e_M1
    replace h := h M1 e_M1
    refine Wp.path (k := 6) [] (C := []) (pc' := 171) (ls' := [some (.inr (.inr (0, 0))), some (.inr (.inr (2, i1))), some (.inl x2), o3]) (st' := [.inl x2, .inr (.inr (105, 0)), .inl x2, .inr (.inr (106, 0))]) (M' := M1) rfl trivial ?_
    refine Wp.call (at_105) rfl rfl (by decide) ?_
    rintro v_ M_ ⟨eM_, ev_⟩
    rw [eM_, ev_]
    clear eM_ ev_ v_ M_
    show Wp 4 1 174 [some (.inr (.inr (0, 0))), some (.inr (.inr (2, i1))), some (.inl x2), o3] [.inl (atN 53 (M1.1 105 0) x2), .inl x2, .inr (.inr (106, 0))] M1 (rV Q)
    refine Wp.call (put_106) rfl rfl (by decide) ?_
    rintro v_ M_ ⟨eM_, ev_⟩
    rw [eM_, ev_]
    clear eM_ ev_ v_ M_
    refine Bd (e := setA M1 106 0 (putN 52 (M1.1 106 0) x2 (atN 53 (M1.1 105 0) x2))) (P := fun M1_1 : Mm => Wp 4 1 177 [some (.inr (.inr (0, 0))), some (.inr (.inr (2, i1))), some (.inl x2), o3] [] M1_1 (rV Q)) ?_
    intro M1_1 e_M1_1
    replace h := h M1_1 e_M1_1
    refine Wp.path (k := 2) [] (C := [inR (x2 + 1)]) (pc' := 126) (ls' := [some (.inr (.inr (0, 0))), some (.inr (.inr (2, i1))), some (.inl (x2 + 1)), o3]) (st' := []) (M' := M1_1) rfl h.1 ?_
    replace h := h.2
    exact h _
  · replace h := h.1 c_1
    refine Wp.path (k := 1) [1] (C := [52 ≤ x2]) (pc' := 183) (ls' := [some (.inr (.inr (0, 0))), some (.inr (.inr (2, i1))), some (.inl x2), o3]) (st' := []) (M' := M) rfl c_1 ?_
    refine Wp.path (k := 2) [] (C := []) (pc' := 185) (ls' := [some (.inr (.inr (0, 0))), some (.inr (.inr (2, i1))), some (.inl 0), o3]) (st' := []) (M' := M) rfl trivial ?_
    exact h _
theorem s_1_185 {i1 : Nat} {x2 : Int} {M : Mm} {Q : Mm → Prop} (h : ((M.1 0 0 8 ≤ x2 → (Q M)) ∧ (x2 < M.1 0 0 8 → (E_3 x2 M (fun M1 : Mm => ((-2147483648 ≤ x2 + 1 ∧ x2 + 1 ≤ 2147483647)) ∧ (L_1_185 i1 (x2 + 1) M1 Q)))))) : L_1_185 i1 x2 M Q := by
  intro o3
  show Wp 4 1 185 [some (.inr (.inr (0, 0))), some (.inr (.inr (2, i1))), some (.inl x2), o3] [] M (rV Q)
  refine Wp.path (k := 3) [] (C := []) (pc' := 190) (ls' := [some (.inr (.inr (0, 0))), some (.inr (.inr (2, i1))), some (.inl x2), o3]) (st' := [.inl (M.1 0 0 8), .inl x2]) (M' := M) rfl trivial ?_
  rcases Int.lt_or_le (x2) (M.1 0 0 8) with c_1 | c_1
  · replace h := h.2 c_1
    refine Wp.path (k := 1) [0] (C := [x2 < M.1 0 0 8]) (pc' := 193) (ls' := [some (.inr (.inr (0, 0))), some (.inr (.inr (2, i1))), some (.inl x2), o3]) (st' := []) (M' := M) rfl c_1 ?_
    refine Wp.path (k := 2) [] (C := []) (pc' := 195) (ls' := [some (.inr (.inr (0, 0))), some (.inr (.inr (2, i1))), some (.inl x2), o3]) (st' := [.inl x2, .inr (.inr (0, 0))]) (M' := M) rfl trivial ?_
    refine Wp.call h rfl rfl (by decide) ?_
    rintro _ M1 ⟨rfl, h⟩
    show Wp 4 1 198 [some (.inr (.inr (0, 0))), some (.inr (.inr (2, i1))), some (.inl x2), o3] [] M1 (rV Q)
    refine Wp.path (k := 2) [] (C := [inR (x2 + 1)]) (pc' := 185) (ls' := [some (.inr (.inr (0, 0))), some (.inr (.inr (2, i1))), some (.inl (x2 + 1)), o3]) (st' := []) (M' := M1) rfl h.1 ?_
    replace h := h.2
    exact h _
  · replace h := h.1 c_1
    refine Wp.path (k := 1) [1] (C := [M.1 0 0 8 ≤ x2]) (pc' := 204) (ls' := [some (.inr (.inr (0, 0))), some (.inr (.inr (2, i1))), some (.inl x2), o3]) (st' := []) (M' := M) rfl c_1 ?_
    exact Wp.ret rfl ⟨rfl, h⟩
/-- X0_along -/
def E_9 (x1 : Int) (x2 : Int) (x3 : Int) (x4 : Int) (x5 : Int) (M : Mm) (Q : Int → Mm → Prop) : Prop := Ev 2 9 [.inr (.inr (0, 0)), .inl x1, .inl x2, .inl x3, .inl x4, .inl x5] M (rI Q)
theorem m_9 {x1 : Int} {x2 : Int} {x3 : Int} {x4 : Int} {x5 : Int} {M : Mm} {Q Q1 : Int → Mm → Prop} (h : E_9 x1 x2 x3 x4 x5 M Q) (k : (∀ r M1, Q r M1 → Q1 r M1)) : E_9 x1 x2 x3 x4 x5 M Q1 := Ev.mono h (fun v M1 ⟨r, h1, h2⟩ => ⟨r, h1, k _ _ h2⟩)
def L_9_75 (x1 : Int) (x2 : Int) (x3 : Int) (x4 : Int) (x5 : Int) (x6 : Int) (x7 : Int) (x8 : Int) (x9 : Int) (x10 : Int) (x11 : Int) (x12 : Int) (M : Mm) (Q : Int → Mm → Prop) : Prop := ∀ o13 : Option Vv, Wp 2 9 75 [some (.inr (.inr (0, 0))), some (.inl x1), some (.inl x2), some (.inl x3), some (.inl x4), some (.inl x5), some (.inl x6), some (.inl x7), some (.inl x8), some (.inl x9), some (.inl x10), some (.inl x11), some (.inl x12), o13] [] M (rI Q)
theorem s_9_0 {x1 : Int} {x2 : Int} {x3 : Int} {x4 : Int} {x5 : Int} {M : Mm} {Q : Int → Mm → Prop} (h : ((x2 < 0 → (((-2147483648 ≤ x1 * 13 ∧ x1 * 13 ≤ 2147483647) ∧ (-2147483648 ≤ x2 ∧ x2 ≤ 2147483647)) ∧ (∀ d : Int, d = Int.tdiv x2 8 → (((-2147483648 ≤ (x1 * 13) + d ∧ (x1 * 13) + d ≤ 2147483647)) ∧ (∀ x7 : Int, x7 = (x1 * 13) + d → (∀ x12 : Int, x12 = atN 53 (M.1 105 0) x7 → (L_9_75 x1 x2 x3 x4 x5 0 x7 0 0 (-1) (-1) x12 M Q))))))) ∧ (0 ≤ x2 → ((96 < x2 → (((-2147483648 ≤ x1 * 13 ∧ x1 * 13 ≤ 2147483647) ∧ (-2147483648 ≤ x2 ∧ x2 ≤ 2147483647)) ∧ (∀ d_1 : Int, d_1 = Int.tdiv x2 8 → (((-2147483648 ≤ (x1 * 13) + d_1 ∧ (x1 * 13) + d_1 ≤ 2147483647)) ∧ (∀ x7_1 : Int, x7_1 = (x1 * 13) + d_1 → (∀ x12_1 : Int, x12_1 = atN 53 (M.1 105 0) x7_1 → (L_9_75 x1 x2 x3 x4 x5 0 x7_1 0 0 (-1) (-1) x12_1 M Q))))))) ∧ (x2 ≤ 96 → (((-2147483648 ≤ x2 ∧ x2 ≤ 2147483647)) ∧ (∀ d_2 : Int, d_2 = Int.tmod x2 8 → (∀ b : Int, b = (if d_2 ≠ 0 then 0 else 1) → (((-2147483648 ≤ x1 * 13 ∧ x1 * 13 ≤ 2147483647) ∧ (-2147483648 ≤ x2 ∧ x2 ≤ 2147483647)) ∧ (∀ d_3 : Int, d_3 = Int.tdiv x2 8 → (((-2147483648 ≤ (x1 * 13) + d_3 ∧ (x1 * 13) + d_3 ≤ 2147483647)) ∧ (∀ x7_2 : Int, x7_2 = (x1 * 13) + d_3 → ((b = 0 → (∀ x12_2 : Int, x12_2 = atN 53 (M.1 105 0) x7_2 → (L_9_75 x1 x2 x3 x4 x5 b x7_2 0 0 (-1) (-1) x12_2 M Q))) ∧ (b ≠ 0 → (∀ x8 : Int, x8 = atN 52 (M.1 106 0) x7_2 → (∀ x12_3 : Int, x12_3 = atN 53 (M.1 105 0) x7_2 → (L_9_75 x1 x2 x3 x4 x5 b x7_2 x8 0 (-1) (-1) x12_3 M Q))))))))))))))))) : E_9 x1 x2 x3 x4 x5 M Q := by
  show Wp 2 9 0 [some (.inr (.inr (0, 0))), some (.inl x1), some (.inl x2), some (.inl x3), some (.inl x4), some (.inl x5), none, none, none, none, none, none, none, none] [] M (rI Q)
  refine Wp.path (k := 1) [] (C := []) (pc' := 1) (ls' := [some (.inr (.inr (0, 0))), some (.inl x1), some (.inl x2), some (.inl x3), some (.inl x4), some (.inl x5), none, none, none, none, none, none, none, none]) (st' := [.inl x2]) (M' := M) rfl trivial ?_
  rcases Int.lt_or_le (x2) (0) with c_1 | c_1
  · replace h := h.1 c_1
    refine Wp.path (k := 1) [1] (C := [x2 < 0]) (pc' := 21) (ls' := [some (.inr (.inr (0, 0))), some (.inl x1), some (.inl x2), some (.inl x3), some (.inl x4), some (.inl x5), none, none, none, none, none, none, none, none]) (st' := []) (M' := M) rfl c_1 ?_
    refine Wp.path (k := 8) [] (C := [inR (x1 * 13), inR x2 ∧ 0 < 8 ∧ inR 8]) (pc' := 32) (ls' := [some (.inr (.inr (0, 0))), some (.inl x1), some (.inl x2), some (.inl x3), some (.inl x4), some (.inl x5), some (.inl 0), none, none, none, none, none, none, none]) (st' := [.inl (Int.tdiv x2 8), .inl (x1 * 13)]) (M' := M) rfl ⟨h.1.1, ⟨h.1.2, by decide, ⟨by decide, by decide⟩⟩⟩ ?_
    replace h := h.2
    refine Bd (P := fun d : Int => Wp 2 9 32 [some (.inr (.inr (0, 0))), some (.inl x1), some (.inl x2), some (.inl x3), some (.inl x4), some (.inl x5), some (.inl 0), none, none, none, none, none, none, none] [.inl d, .inl (x1 * 13)] M (rI Q)) ?_
    intro d e_d
    replace h := h d e_d
    refine Wp.path (k := 2) [] (C := [inR ((x1 * 13) + d)]) (pc' := 35) (ls' := [some (.inr (.inr (0, 0))), some (.inl x1), some (.inl x2), some (.inl x3), some (.inl x4), some (.inl x5), some (.inl 0), some (.inl ((x1 * 13) + d)), none, none, none, none, none, none]) (st' := []) (M' := M) rfl h.1 ?_
    replace h := h.2
    refine Bd (P := fun x7 : Int => Wp 2 9 35 [some (.inr (.inr (0, 0))), some (.inl x1), some (.inl x2), some (.inl x3), some (.inl x4), some (.inl x5), some (.inl 0), some (.inl x7), none, none, none, none, none, none] [] M (rI Q)) ?_
    intro x7 e_x7
    replace h := h x7 e_x7
    refine Wp.path (k := 1) [] (C := []) (pc' := 37) (ls' := [some (.inr (.inr (0, 0))), some (.inl x1), some (.inl x2), some (.inl x3), some (.inl x4), some (.inl x5), some (.inl 0), some (.inl x7), none, none, none, none, none, none]) (st' := [.inl 0]) (M' := M) rfl trivial ?_
    refine Wp.path (k := 1) [1] (C := [(0 : Int) = (0 : Int)]) (pc' := 52) (ls' := [some (.inr (.inr (0, 0))), some (.inl x1), some (.inl x2), some (.inl x3), some (.inl x4), some (.inl x5), some (.inl 0), some (.inl x7), none, none, none, none, none, none]) (st' := []) (M' := M) rfl (show (0 : Int) = (0 : Int) by decide) ?_
    refine Wp.path (k := 11) [] (C := []) (pc' := 70) (ls' := [some (.inr (.inr (0, 0))), some (.inl x1), some (.inl x2), some (.inl x3), some (.inl x4), some (.inl x5), some (.inl 0), some (.inl x7), some (.inl 0), some (.inl 0), some (.inl (-1)), some (.inl (-1)), none, none]) (st' := [.inl x7, .inr (.inr (105, 0))]) (M' := M) rfl trivial ?_
    refine Wp.call (at_105) rfl rfl (by decide) ?_
    rintro v_ M_ ⟨eM_, ev_⟩
    rw [eM_, ev_]
    clear eM_ ev_ v_ M_
    show Wp 2 9 73 [some (.inr (.inr (0, 0))), some (.inl x1), some (.inl x2), some (.inl x3), some (.inl x4), some (.inl x5), some (.inl 0), some (.inl x7), some (.inl 0), some (.inl 0), some (.inl (-1)), some (.inl (-1)), none, none] [.inl (atN 53 (M.1 105 0) x7)] M (rI Q)
    refine Wp.path (k := 1) [] (C := []) (pc' := 75) (ls' := [some (.inr (.inr (0, 0))), some (.inl x1), some (.inl x2), some (.inl x3), some (.inl x4), some (.inl x5), some (.inl 0), some (.inl x7), some (.inl 0), some (.inl 0), some (.inl (-1)), some (.inl (-1)), some (.inl (atN 53 (M.1 105 0) x7)), none]) (st' := []) (M' := M) rfl trivial ?_
    refine Bd (P := fun x12 : Int => Wp 2 9 75 [some (.inr (.inr (0, 0))), some (.inl x1), some (.inl x2), some (.inl x3), some (.inl x4), some (.inl x5), some (.inl 0), some (.inl x7), some (.inl 0), some (.inl 0), some (.inl (-1)), some (.inl (-1)), some (.inl x12), none] [] M (rI Q)) ?_
    intro x12 e_x12
    replace h := h x12 e_x12
    exact h _
  · replace h := h.2 c_1
    refine Wp.path (k := 1) [0] (C := [0 ≤ x2]) (pc' := 4) (ls' := [some (.inr (.inr (0, 0))), some (.inl x1), some (.inl x2), some (.inl x3), some (.inl x4), some (.inl x5), none, none, none, none, none, none, none, none]) (st' := []) (M' := M) rfl c_1 ?_
    refine Wp.path (k := 2) [] (C := []) (pc' := 7) (ls' := [some (.inr (.inr (0, 0))), some (.inl x1), some (.inl x2), some (.inl x3), some (.inl x4), some (.inl x5), none, none, none, none, none, none, none, none]) (st' := [.inl 96, .inl x2]) (M' := M) rfl trivial ?_
    rcases Int.lt_or_le (96) (x2) with c_2 | c_2
    · replace h := h.1 c_2
      refine Wp.path (k := 1) [1] (C := [96 < x2]) (pc' := 21) (ls' := [some (.inr (.inr (0, 0))), some (.inl x1), some (.inl x2), some (.inl x3), some (.inl x4), some (.inl x5), none, none, none, none, none, none, none, none]) (st' := []) (M' := M) rfl c_2 ?_
      refine Wp.path (k := 8) [] (C := [inR (x1 * 13), inR x2 ∧ 0 < 8 ∧ inR 8]) (pc' := 32) (ls' := [some (.inr (.inr (0, 0))), some (.inl x1), some (.inl x2), some (.inl x3), some (.inl x4), some (.inl x5), some (.inl 0), none, none, none, none, none, none, none]) (st' := [.inl (Int.tdiv x2 8), .inl (x1 * 13)]) (M' := M) rfl ⟨h.1.1, ⟨h.1.2, by decide, ⟨by decide, by decide⟩⟩⟩ ?_
      replace h := h.2
      refine Bd (P := fun d_1 : Int => Wp 2 9 32 [some (.inr (.inr (0, 0))), some (.inl x1), some (.inl x2), some (.inl x3), some (.inl x4), some (.inl x5), some (.inl 0), none, none, none, none, none, none, none] [.inl d_1, .inl (x1 * 13)] M (rI Q)) ?_
      intro d_1 e_d_1
      replace h := h d_1 e_d_1
      refine Wp.path (k := 2) [] (C := [inR ((x1 * 13) + d_1)]) (pc' := 35) (ls' := [some (.inr (.inr (0, 0))), some (.inl x1), some (.inl x2), some (.inl x3), some (.inl x4), some (.inl x5), some (.inl 0), some (.inl ((x1 * 13) + d_1)), none, none, none, none, none, none]) (st' := []) (M' := M) rfl h.1 ?_
      replace h := h.2
      refine Bd (P := fun x7_1 : Int => Wp 2 9 35 [some (.inr (.inr (0, 0))), some (.inl x1), some (.inl x2), some (.inl x3), some (.inl x4), some (.inl x5), some (.inl 0), some (.inl x7_1), none, none, none, none, none, none] [] M (rI Q)) ?_
      intro x7_1 e_x7_1
      replace h := h x7_1 e_x7_1
      refine Wp.path (k := 1) [] (C := []) (pc' := 37) (ls' := [some (.inr (.inr (0, 0))), some (.inl x1), some (.inl x2), some (.inl x3), some (.inl x4), some (.inl x5), some (.inl 0), some (.inl x7_1), none, none, none, none, none, none]) (st' := [.inl 0]) (M' := M) rfl trivial ?_
      refine Wp.path (k := 1) [1] (C := [(0 : Int) = (0 : Int)]) (pc' := 52) (ls' := [some (.inr (.inr (0, 0))), some (.inl x1), some (.inl x2), some (.inl x3), some (.inl x4), some (.inl x5), some (.inl 0), some (.inl x7_1), none, none, none, none, none, none]) (st' := []) (M' := M) rfl (show (0 : Int) = (0 : Int) by decide) ?_
      refine Wp.path (k := 11) [] (C := []) (pc' := 70) (ls' := [some (.inr (.inr (0, 0))), some (.inl x1), some (.inl x2), some (.inl x3), some (.inl x4), some (.inl x5), some (.inl 0), some (.inl x7_1), some (.inl 0), some (.inl 0), some (.inl (-1)), some (.inl (-1)), none, none]) (st' := [.inl x7_1, .inr (.inr (105, 0))]) (M' := M) rfl trivial ?_
      refine Wp.call (at_105) rfl rfl (by decide) ?_
      rintro v_ M_ ⟨eM_, ev_⟩
      rw [eM_, ev_]
      clear eM_ ev_ v_ M_
      show Wp 2 9 73 [some (.inr (.inr (0, 0))), some (.inl x1), some (.inl x2), some (.inl x3), some (.inl x4), some (.inl x5), some (.inl 0), some (.inl x7_1), some (.inl 0), some (.inl 0), some (.inl (-1)), some (.inl (-1)), none, none] [.inl (atN 53 (M.1 105 0) x7_1)] M (rI Q)
      refine Wp.path (k := 1) [] (C := []) (pc' := 75) (ls' := [some (.inr (.inr (0, 0))), some (.inl x1), some (.inl x2), some (.inl x3), some (.inl x4), some (.inl x5), some (.inl 0), some (.inl x7_1), some (.inl 0), some (.inl 0), some (.inl (-1)), some (.inl (-1)), some (.inl (atN 53 (M.1 105 0) x7_1)), none]) (st' := []) (M' := M) rfl trivial ?_
      refine Bd (P := fun x12_1 : Int => Wp 2 9 75 [some (.inr (.inr (0, 0))), some (.inl x1), some (.inl x2), some (.inl x3), some (.inl x4), some (.inl x5), some (.inl 0), some (.inl x7_1), some (.inl 0), some (.inl 0), some (.inl (-1)), some (.inl (-1)), some (.inl x12_1), none] [] M (rI Q)) ?_
      intro x12_1 e_x12_1
      replace h := h x12_1 e_x12_1
      exact h _
    · replace h := h.2 c_2
      refine Wp.path (k := 1) [0] (C := [x2 ≤ 96]) (pc' := 10) (ls' := [some (.inr (.inr (0, 0))), some (.inl x1), some (.inl x2), some (.inl x3), some (.inl x4), some (.inl x5), none, none, none, none, none, none, none, none]) (st' := []) (M' := M) rfl c_2 ?_
      refine Wp.path (k := 3) [] (C := [inR x2 ∧ 0 < 8 ∧ inR 8]) (pc' := 14) (ls' := [some (.inr (.inr (0, 0))), some (.inl x1), some (.inl x2), some (.inl x3), some (.inl x4), some (.inl x5), none, none, none, none, none, none, none, none]) (st' := [.inl (Int.tmod x2 8)]) (M' := M) rfl ⟨h.1, by decide, ⟨by decide, by decide⟩⟩ ?_
      replace h := h.2
      refine Bd (P := fun d_2 : Int => Wp 2 9 14 [some (.inr (.inr (0, 0))), some (.inl x1), some (.inl x2), some (.inl x3), some (.inl x4), some (.inl x5), none, none, none, none, none, none, none, none] [.inl d_2] M (rI Q)) ?_
      intro d_2 e_d_2
      replace h := h d_2 e_d_2
      have k_4 : ∀ b : Int, b = (if d_2 ≠ 0 then 0 else 1) → Wp 2 9 22 [some (.inr (.inr (0, 0))), some (.inl x1), some (.inl x2), some (.inl x3), some (.inl x4), some (.inl x5), none, none, none, none, none, none, none, none] [.inl b] M (rI Q) := by
        intro b e_b
        replace h := h b e_b
        refine Wp.path (k := 7) [] (C := [inR (x1 * 13), inR x2 ∧ 0 < 8 ∧ inR 8]) (pc' := 32) (ls' := [some (.inr (.inr (0, 0))), some (.inl x1), some (.inl x2), some (.inl x3), some (.inl x4), some (.inl x5), some (.inl b), none, none, none, none, none, none, none]) (st' := [.inl (Int.tdiv x2 8), .inl (x1 * 13)]) (M' := M) rfl ⟨h.1.1, ⟨h.1.2, by decide, ⟨by decide, by decide⟩⟩⟩ ?_
        replace h := h.2
        refine Bd (P := fun d_3 : Int => Wp 2 9 32 [some (.inr (.inr (0, 0))), some (.inl x1), some (.inl x2), some (.inl x3), some (.inl x4), some (.inl x5), some (.inl b), none, none, none, none, none, none, none] [.inl d_3, .inl (x1 * 13)] M (rI Q)) ?_
        intro d_3 e_d_3
        replace h := h d_3 e_d_3
        refine Wp.path (k := 2) [] (C := [inR ((x1 * 13) + d_3)]) (pc' := 35) (ls' := [some (.inr (.inr (0, 0))), some (.inl x1), some (.inl x2), some (.inl x3), some (.inl x4), some (.inl x5), some (.inl b), some (.inl ((x1 * 13) + d_3)), none, none, none, none, none, none]) (st' := []) (M' := M) rfl h.1 ?_
        replace h := h.2
        refine Bd (P := fun x7_2 : Int => Wp 2 9 35 [some (.inr (.inr (0, 0))), some (.inl x1), some (.inl x2), some (.inl x3), some (.inl x4), some (.inl x5), some (.inl b), some (.inl x7_2), none, none, none, none, none, none] [] M (rI Q)) ?_
        intro x7_2 e_x7_2
        replace h := h x7_2 e_x7_2
        refine Wp.path (k := 1) [] (C := []) (pc' := 37) (ls' := [some (.inr (.inr (0, 0))), some (.inl x1), some (.inl x2), some (.inl x3), some (.inl x4), some (.inl x5), some (.inl b), some (.inl x7_2), none, none, none, none, none, none]) (st' := [.inl b]) (M' := M) rfl trivial ?_
        rcases Decidable.em (b = 0) with c_3 | c_3
        · replace h := h.1 c_3
          refine Wp.path (k := 1) [1] (C := [b = 0]) (pc' := 52) (ls' := [some (.inr (.inr (0, 0))), some (.inl x1), some (.inl x2), some (.inl x3), some (.inl x4), some (.inl x5), some (.inl b), some (.inl x7_2), none, none, none, none, none, none]) (st' := []) (M' := M) rfl c_3 ?_
          refine Wp.path (k := 11) [] (C := []) (pc' := 70) (ls' := [some (.inr (.inr (0, 0))), some (.inl x1), some (.inl x2), some (.inl x3), some (.inl x4), some (.inl x5), some (.inl b), some (.inl x7_2), some (.inl 0), some (.inl 0), some (.inl (-1)), some (.inl (-1)), none, none]) (st' := [.inl x7_2, .inr (.inr (105, 0))]) (M' := M) rfl trivial ?_
          refine Wp.call (at_105) rfl rfl (by decide) ?_
          rintro v_ M_ ⟨eM_, ev_⟩
          rw [eM_, ev_]
          clear eM_ ev_ v_ M_
          show Wp 2 9 73 [some (.inr (.inr (0, 0))), some (.inl x1), some (.inl x2), some (.inl x3), some (.inl x4), some (.inl x5), some (.inl b), some (.inl x7_2), some (.inl 0), some (.inl 0), some (.inl (-1)), some (.inl (-1)), none, none] [.inl (atN 53 (M.1 105 0) x7_2)] M (rI Q)
          refine Wp.path (k := 1) [] (C := []) (pc' := 75) (ls' := [some (.inr (.inr (0, 0))), some (.inl x1), some (.inl x2), some (.inl x3), some (.inl x4), some (.inl x5), some (.inl b), some (.inl x7_2), some (.inl 0), some (.inl 0), some (.inl (-1)), some (.inl (-1)), some (.inl (atN 53 (M.1 105 0) x7_2)), none]) (st' := []) (M' := M) rfl trivial ?_
          refine Bd (P := fun x12_2 : Int => Wp 2 9 75 [some (.inr (.inr (0, 0))), some (.inl x1), some (.inl x2), some (.inl x3), some (.inl x4), some (.inl x5), some (.inl b), some (.inl x7_2), some (.inl 0), some (.inl 0), some (.inl (-1)), some (.inl (-1)), some (.inl x12_2), none] [] M (rI Q)) ?_
          intro x12_2 e_x12_2
          replace h := h x12_2 e_x12_2
          exact h _
        · replace h := h.2 c_3
          refine Wp.path (k := 1) [0] (C := [b ≠ 0]) (pc' := 40) (ls' := [some (.inr (.inr (0, 0))), some (.inl x1), some (.inl x2), some (.inl x3), some (.inl x4), some (.inl x5), some (.inl b), some (.inl x7_2), none, none, none, none, none, none]) (st' := []) (M' := M) rfl c_3 ?_
          refine Wp.path (k := 3) [] (C := []) (pc' := 46) (ls' := [some (.inr (.inr (0, 0))), some (.inl x1), some (.inl x2), some (.inl x3), some (.inl x4), some (.inl x5), some (.inl b), some (.inl x7_2), none, none, none, none, none, none]) (st' := [.inl x7_2, .inr (.inr (106, 0))]) (M' := M) rfl trivial ?_
          refine Wp.call (at_106) rfl rfl (by decide) ?_
          rintro v_ M_ ⟨eM_, ev_⟩
          rw [eM_, ev_]
          clear eM_ ev_ v_ M_
          show Wp 2 9 49 [some (.inr (.inr (0, 0))), some (.inl x1), some (.inl x2), some (.inl x3), some (.inl x4), some (.inl x5), some (.inl b), some (.inl x7_2), none, none, none, none, none, none] [.inl (atN 52 (M.1 106 0) x7_2)] M (rI Q)
          refine Wp.path (k := 2) [] (C := []) (pc' := 55) (ls' := [some (.inr (.inr (0, 0))), some (.inl x1), some (.inl x2), some (.inl x3), some (.inl x4), some (.inl x5), some (.inl b), some (.inl x7_2), some (.inl (atN 52 (M.1 106 0) x7_2)), none, none, none, none, none]) (st' := []) (M' := M) rfl trivial ?_
          refine Bd (P := fun x8 : Int => Wp 2 9 55 [some (.inr (.inr (0, 0))), some (.inl x1), some (.inl x2), some (.inl x3), some (.inl x4), some (.inl x5), some (.inl b), some (.inl x7_2), some (.inl x8), none, none, none, none, none] [] M (rI Q)) ?_
          intro x8 e_x8
          replace h := h x8 e_x8
          refine Wp.path (k := 9) [] (C := []) (pc' := 70) (ls' := [some (.inr (.inr (0, 0))), some (.inl x1), some (.inl x2), some (.inl x3), some (.inl x4), some (.inl x5), some (.inl b), some (.inl x7_2), some (.inl x8), some (.inl 0), some (.inl (-1)), some (.inl (-1)), none, none]) (st' := [.inl x7_2, .inr (.inr (105, 0))]) (M' := M) rfl trivial ?_
          refine Wp.call (at_105) rfl rfl (by decide) ?_
          rintro v_ M_ ⟨eM_, ev_⟩
          rw [eM_, ev_]
          clear eM_ ev_ v_ M_
          show Wp 2 9 73 [some (.inr (.inr (0, 0))), some (.inl x1), some (.inl x2), some (.inl x3), some (.inl x4), some (.inl x5), some (.inl b), some (.inl x7_2), some (.inl x8), some (.inl 0), some (.inl (-1)), some (.inl (-1)), none, none] [.inl (atN 53 (M.1 105 0) x7_2)] M (rI Q)
          refine Wp.path (k := 1) [] (C := []) (pc' := 75) (ls' := [some (.inr (.inr (0, 0))), some (.inl x1), some (.inl x2), some (.inl x3), some (.inl x4), some (.inl x5), some (.inl b), some (.inl x7_2), some (.inl x8), some (.inl 0), some (.inl (-1)), some (.inl (-1)), some (.inl (atN 53 (M.1 105 0) x7_2)), none]) (st' := []) (M' := M) rfl trivial ?_
          refine Bd (P := fun x12_3 : Int => Wp 2 9 75 [some (.inr (.inr (0, 0))), some (.inl x1), some (.inl x2), some (.inl x3), some (.inl x4), some (.inl x5), some (.inl b), some (.inl x7_2), some (.inl x8), some (.inl 0), some (.inl (-1)), some (.inl (-1)), some (.inl x12_3), none] [] M (rI Q)) ?_
          intro x12_3 e_x12_3
          replace h := h x12_3 e_x12_3
          exact h _
      clear h
      rcases Decidable.em (d_2 = 0) with c_5 | c_5
      · refine Wp.path (k := 1) [0] (C := [d_2 = 0]) (pc' := 17) (ls' := [some (.inr (.inr (0, 0))), some (.inl x1), some (.inl x2), some (.inl x3), some (.inl x4), some (.inl x5), none, none, none, none, none, none, none, none]) (st' := []) (M' := M) rfl c_5 ?_
        refine Wp.path (k := 2) [] (C := []) (pc' := 22) (ls' := [some (.inr (.inr (0, 0))), some (.inl x1), some (.inl x2), some (.inl x3), some (.inl x4), some (.inl x5), none, none, none, none, none, none, none, none]) (st' := [.inl 1]) (M' := M) rfl trivial ?_
        exact k_4 _ (by rw [if_neg (not_not_intro c_5)])
      · refine Wp.path (k := 1) [1] (C := [d_2 ≠ 0]) (pc' := 21) (ls' := [some (.inr (.inr (0, 0))), some (.inl x1), some (.inl x2), some (.inl x3), some (.inl x4), some (.inl x5), none, none, none, none, none, none, none, none]) (st' := []) (M' := M) rfl c_5 ?_
        refine Wp.path (k := 1) [] (C := []) (pc' := 22) (ls' := [some (.inr (.inr (0, 0))), some (.inl x1), some (.inl x2), some (.inl x3), some (.inl x4), some (.inl x5), none, none, none, none, none, none, none, none]) (st' := [.inl 0]) (M' := M) rfl trivial ?_
        exact k_4 _ (by rw [if_pos c_5])
theorem s_9_75 {x1 : Int} {x2 : Int} {x3 : Int} {x4 : Int} {x5 : Int} {x6 : Int} {x7 : Int} {x8 : Int} {x9 : Int} {x10 : Int} {x11 : Int} {x12 : Int} {M : Mm} {Q : Int → Mm → Prop} (h : ((x8 ≤ x12 → ((x5 ≠ 0 → (∀ b_1 : Int, b_1 = (if x5 ≠ 1 then x11 else x10) → (Q b_1 M))) ∧ (x5 = 0 → (Q x9 M)))) ∧ (x12 < x8 → (∀ x13 : Int, x13 = atN 340 (M.1 104 0) x12 → ((inR (8 * atN 340 (M.1 103 0) x13) ∧ inR (8 * atN 340 (M.1 102 0) x13)) ∧ ((ovV (M.1 102 0) (M.1 103 0) x13 x3 x4 = 0 → (((-2147483648 ≤ x12 + 1 ∧ x12 + 1 ≤ 2147483647)) ∧ (L_9_75 x1 x2 x3 x4 x5 x6 x7 x8 x9 x10 x11 (x12 + 1) M Q))) ∧ (ovV (M.1 102 0) (M.1 103 0) x13 x3 x4 ≠ 0 → (((-2147483648 ≤ x9 + 1 ∧ x9 + 1 ≤ 2147483647)) ∧ (∀ b : Int, b = (if 0 ≤ x10 then x10 else x13) → (((-2147483648 ≤ x12 + 1 ∧ x12 + 1 ≤ 2147483647)) ∧ (L_9_75 x1 x2 x3 x4 x5 x6 x7 x8 (x9 + 1) b x13 (x12 + 1) M Q))))))))))) : L_9_75 x1 x2 x3 x4 x5 x6 x7 x8 x9 x10 x11 x12 M Q := by
  intro o13
  show Wp 2 9 75 [some (.inr (.inr (0, 0))), some (.inl x1), some (.inl x2), some (.inl x3), some (.inl x4), some (.inl x5), some (.inl x6), some (.inl x7), some (.inl x8), some (.inl x9), some (.inl x10), some (.inl x11), some (.inl x12), o13] [] M (rI Q)
  refine Wp.path (k := 2) [] (C := []) (pc' := 79) (ls' := [some (.inr (.inr (0, 0))), some (.inl x1), some (.inl x2), some (.inl x3), some (.inl x4), some (.inl x5), some (.inl x6), some (.inl x7), some (.inl x8), some (.inl x9), some (.inl x10), some (.inl x11), some (.inl x12), o13]) (st' := [.inl x8, .inl x12]) (M' := M) rfl trivial ?_
  rcases Int.lt_or_le (x12) (x8) with c_1 | c_1
  · replace h := h.2 c_1
    refine Wp.path (k := 1) [0] (C := [x12 < x8]) (pc' := 82) (ls' := [some (.inr (.inr (0, 0))), some (.inl x1), some (.inl x2), some (.inl x3), some (.inl x4), some (.inl x5), some (.inl x6), some (.inl x7), some (.inl x8), some (.inl x9), some (.inl x10), some (.inl x11), some (.inl x12), o13]) (st' := []) (M' := M) rfl c_1 ?_
    refine Wp.path (k := 3) [] (C := []) (pc' := 88) (ls' := [some (.inr (.inr (0, 0))), some (.inl x1), some (.inl x2), some (.inl x3), some (.inl x4), some (.inl x5), some (.inl x6), some (.inl x7), some (.inl x8), some (.inl x9), some (.inl x10), some (.inl x11), some (.inl x12), o13]) (st' := [.inl x12, .inr (.inr (104, 0))]) (M' := M) rfl trivial ?_
    refine Wp.call (at_104) rfl rfl (by decide) ?_
    rintro v_ M_ ⟨eM_, ev_⟩
    rw [eM_, ev_]
    clear eM_ ev_ v_ M_
    show Wp 2 9 91 [some (.inr (.inr (0, 0))), some (.inl x1), some (.inl x2), some (.inl x3), some (.inl x4), some (.inl x5), some (.inl x6), some (.inl x7), some (.inl x8), some (.inl x9), some (.inl x10), some (.inl x11), some (.inl x12), o13] [.inl (atN 340 (M.1 104 0) x12)] M (rI Q)
    refine Wp.path (k := 1) [] (C := []) (pc' := 93) (ls' := [some (.inr (.inr (0, 0))), some (.inl x1), some (.inl x2), some (.inl x3), some (.inl x4), some (.inl x5), some (.inl x6), some (.inl x7), some (.inl x8), some (.inl x9), some (.inl x10), some (.inl x11), some (.inl x12), some (.inl (atN 340 (M.1 104 0) x12))]) (st' := []) (M' := M) rfl trivial ?_
    refine Bd (P := fun x13 : Int => Wp 2 9 93 [some (.inr (.inr (0, 0))), some (.inl x1), some (.inl x2), some (.inl x3), some (.inl x4), some (.inl x5), some (.inl x6), some (.inl x7), some (.inl x8), some (.inl x9), some (.inl x10), some (.inl x11), some (.inl x12), some (.inl x13)] [] M (rI Q)) ?_
    intro x13 e_x13
    replace h := h x13 e_x13
    refine Wp.path (k := 4) [] (C := []) (pc' := 99) (ls' := [some (.inr (.inr (0, 0))), some (.inl x1), some (.inl x2), some (.inl x3), some (.inl x4), some (.inl x5), some (.inl x6), some (.inl x7), some (.inl x8), some (.inl x9), some (.inl x10), some (.inl x11), some (.inl x12), some (.inl x13)]) (st' := [.inl x4, .inl x3, .inl x13, .inr (.inr (0, 0))]) (M' := M) rfl trivial ?_
    refine Wp.call (e8 h.1.1 h.1.2) rfl rfl (by decide) ?_
    replace h := h.2
    rintro v_ M_ ⟨eM_, ev_⟩
    rw [eM_, ev_]
    clear eM_ ev_ v_ M_
    show Wp 2 9 102 [some (.inr (.inr (0, 0))), some (.inl x1), some (.inl x2), some (.inl x3), some (.inl x4), some (.inl x5), some (.inl x6), some (.inl x7), some (.inl x8), some (.inl x9), some (.inl x10), some (.inl x11), some (.inl x12), some (.inl x13)] [.inl (ovV (M.1 102 0) (M.1 103 0) x13 x3 x4)] M (rI Q)
    rcases Decidable.em (ovV (M.1 102 0) (M.1 103 0) x13 x3 x4 = 0) with c_2 | c_2
    · replace h := h.1 c_2
      refine Wp.path (k := 1) [1] (C := [ovV (M.1 102 0) (M.1 103 0) x13 x3 x4 = 0]) (pc' := 126) (ls' := [some (.inr (.inr (0, 0))), some (.inl x1), some (.inl x2), some (.inl x3), some (.inl x4), some (.inl x5), some (.inl x6), some (.inl x7), some (.inl x8), some (.inl x9), some (.inl x10), some (.inl x11), some (.inl x12), some (.inl x13)]) (st' := []) (M' := M) rfl c_2 ?_
      refine Wp.path (k := 2) [] (C := [inR (x12 + 1)]) (pc' := 75) (ls' := [some (.inr (.inr (0, 0))), some (.inl x1), some (.inl x2), some (.inl x3), some (.inl x4), some (.inl x5), some (.inl x6), some (.inl x7), some (.inl x8), some (.inl x9), some (.inl x10), some (.inl x11), some (.inl (x12 + 1)), some (.inl x13)]) (st' := []) (M' := M) rfl h.1 ?_
      replace h := h.2
      exact h _
    · replace h := h.2 c_2
      refine Wp.path (k := 1) [0] (C := [ovV (M.1 102 0) (M.1 103 0) x13 x3 x4 ≠ 0]) (pc' := 105) (ls' := [some (.inr (.inr (0, 0))), some (.inl x1), some (.inl x2), some (.inl x3), some (.inl x4), some (.inl x5), some (.inl x6), some (.inl x7), some (.inl x8), some (.inl x9), some (.inl x10), some (.inl x11), some (.inl x12), some (.inl x13)]) (st' := []) (M' := M) rfl c_2 ?_
      refine Wp.path (k := 2) [] (C := [inR (x9 + 1)]) (pc' := 110) (ls' := [some (.inr (.inr (0, 0))), some (.inl x1), some (.inl x2), some (.inl x3), some (.inl x4), some (.inl x5), some (.inl x6), some (.inl x7), some (.inl x8), some (.inl (x9 + 1)), some (.inl x10), some (.inl x11), some (.inl x12), some (.inl x13)]) (st' := [.inl x10]) (M' := M) rfl h.1 ?_
      replace h := h.2
      have k_3 : ∀ b : Int, b = (if 0 ≤ x10 then x10 else x13) → Wp 2 9 120 [some (.inr (.inr (0, 0))), some (.inl x1), some (.inl x2), some (.inl x3), some (.inl x4), some (.inl x5), some (.inl x6), some (.inl x7), some (.inl x8), some (.inl (x9 + 1)), some (.inl x10), some (.inl x11), some (.inl x12), some (.inl x13)] [.inl b] M (rI Q) := by
        intro b e_b
        replace h := h b e_b
        refine Wp.path (k := 5) [] (C := [inR (x12 + 1)]) (pc' := 75) (ls' := [some (.inr (.inr (0, 0))), some (.inl x1), some (.inl x2), some (.inl x3), some (.inl x4), some (.inl x5), some (.inl x6), some (.inl x7), some (.inl x8), some (.inl (x9 + 1)), some (.inl b), some (.inl x13), some (.inl (x12 + 1)), some (.inl x13)]) (st' := []) (M' := M) rfl h.1 ?_
        replace h := h.2
        exact h _
      clear h
      rcases Int.lt_or_le (x10) (0) with c_4 | c_4
      · refine Wp.path (k := 1) [0] (C := [x10 < 0]) (pc' := 113) (ls' := [some (.inr (.inr (0, 0))), some (.inl x1), some (.inl x2), some (.inl x3), some (.inl x4), some (.inl x5), some (.inl x6), some (.inl x7), some (.inl x8), some (.inl (x9 + 1)), some (.inl x10), some (.inl x11), some (.inl x12), some (.inl x13)]) (st' := []) (M' := M) rfl c_4 ?_
        refine Wp.path (k := 2) [] (C := []) (pc' := 120) (ls' := [some (.inr (.inr (0, 0))), some (.inl x1), some (.inl x2), some (.inl x3), some (.inl x4), some (.inl x5), some (.inl x6), some (.inl x7), some (.inl x8), some (.inl (x9 + 1)), some (.inl x10), some (.inl x11), some (.inl x12), some (.inl x13)]) (st' := [.inl x13]) (M' := M) rfl trivial ?_
        exact k_3 _ (by rw [if_neg (Int.not_le.mpr c_4)])
      · refine Wp.path (k := 1) [1] (C := [0 ≤ x10]) (pc' := 118) (ls' := [some (.inr (.inr (0, 0))), some (.inl x1), some (.inl x2), some (.inl x3), some (.inl x4), some (.inl x5), some (.inl x6), some (.inl x7), some (.inl x8), some (.inl (x9 + 1)), some (.inl x10), some (.inl x11), some (.inl x12), some (.inl x13)]) (st' := []) (M' := M) rfl c_4 ?_
        refine Wp.path (k := 1) [] (C := []) (pc' := 120) (ls' := [some (.inr (.inr (0, 0))), some (.inl x1), some (.inl x2), some (.inl x3), some (.inl x4), some (.inl x5), some (.inl x6), some (.inl x7), some (.inl x8), some (.inl (x9 + 1)), some (.inl x10), some (.inl x11), some (.inl x12), some (.inl x13)]) (st' := [.inl x10]) (M' := M) rfl trivial ?_
        exact k_3 _ (by rw [if_pos c_4])
  · replace h := h.1 c_1
    refine Wp.path (k := 1) [1] (C := [x8 ≤ x12]) (pc' := 132) (ls' := [some (.inr (.inr (0, 0))), some (.inl x1), some (.inl x2), some (.inl x3), some (.inl x4), some (.inl x5), some (.inl x6), some (.inl x7), some (.inl x8), some (.inl x9), some (.inl x10), some (.inl x11), some (.inl x12), o13]) (st' := []) (M' := M) rfl c_1 ?_
    refine Wp.path (k := 1) [] (C := []) (pc' := 134) (ls' := [some (.inr (.inr (0, 0))), some (.inl x1), some (.inl x2), some (.inl x3), some (.inl x4), some (.inl x5), some (.inl x6), some (.inl x7), some (.inl x8), some (.inl x9), some (.inl x10), some (.inl x11), some (.inl x12), o13]) (st' := [.inl x5]) (M' := M) rfl trivial ?_
    rcases Decidable.em (x5 = 0) with c_5 | c_5
    · replace h := h.2 c_5
      refine Wp.path (k := 1) [0] (C := [x5 = 0]) (pc' := 137) (ls' := [some (.inr (.inr (0, 0))), some (.inl x1), some (.inl x2), some (.inl x3), some (.inl x4), some (.inl x5), some (.inl x6), some (.inl x7), some (.inl x8), some (.inl x9), some (.inl x10), some (.inl x11), some (.inl x12), o13]) (st' := []) (M' := M) rfl c_5 ?_
      refine Wp.path (k := 1) [] (C := []) (pc' := 139) (ls' := [some (.inr (.inr (0, 0))), some (.inl x1), some (.inl x2), some (.inl x3), some (.inl x4), some (.inl x5), some (.inl x6), some (.inl x7), some (.inl x8), some (.inl x9), some (.inl x10), some (.inl x11), some (.inl x12), o13]) (st' := [.inl x9]) (M' := M) rfl trivial ?_
      exact Wp.ret rfl ⟨_, rfl, h⟩
    · replace h := h.1 c_5
      refine Wp.path (k := 1) [1] (C := [x5 ≠ 0]) (pc' := 140) (ls' := [some (.inr (.inr (0, 0))), some (.inl x1), some (.inl x2), some (.inl x3), some (.inl x4), some (.inl x5), some (.inl x6), some (.inl x7), some (.inl x8), some (.inl x9), some (.inl x10), some (.inl x11), some (.inl x12), o13]) (st' := []) (M' := M) rfl c_5 ?_
      refine Wp.path (k := 2) [] (C := []) (pc' := 143) (ls' := [some (.inr (.inr (0, 0))), some (.inl x1), some (.inl x2), some (.inl x3), some (.inl x4), some (.inl x5), some (.inl x6), some (.inl x7), some (.inl x8), some (.inl x9), some (.inl x10), some (.inl x11), some (.inl x12), o13]) (st' := [.inl 1, .inl x5]) (M' := M) rfl trivial ?_
      have k_6 : ∀ b_1 : Int, b_1 = (if x5 ≠ 1 then x11 else x10) → Wp 2 9 153 [some (.inr (.inr (0, 0))), some (.inl x1), some (.inl x2), some (.inl x3), some (.inl x4), some (.inl x5), some (.inl x6), some (.inl x7), some (.inl x8), some (.inl x9), some (.inl x10), some (.inl x11), some (.inl x12), o13] [.inl b_1] M (rI Q) := by
        intro b_1 e_b_1
        replace h := h b_1 e_b_1
        exact Wp.ret rfl ⟨_, rfl, h⟩
      clear h
      rcases Decidable.em (x5 = 1) with c_7 | c_7
      · refine Wp.path (k := 1) [0] (C := [x5 = 1]) (pc' := 146) (ls' := [some (.inr (.inr (0, 0))), some (.inl x1), some (.inl x2), some (.inl x3), some (.inl x4), some (.inl x5), some (.inl x6), some (.inl x7), some (.inl x8), some (.inl x9), some (.inl x10), some (.inl x11), some (.inl x12), o13]) (st' := []) (M' := M) rfl c_7 ?_
        refine Wp.path (k := 2) [] (C := []) (pc' := 153) (ls' := [some (.inr (.inr (0, 0))), some (.inl x1), some (.inl x2), some (.inl x3), some (.inl x4), some (.inl x5), some (.inl x6), some (.inl x7), some (.inl x8), some (.inl x9), some (.inl x10), some (.inl x11), some (.inl x12), o13]) (st' := [.inl x10]) (M' := M) rfl trivial ?_
        exact k_6 _ (by rw [if_neg (not_not_intro c_7)])
      · refine Wp.path (k := 1) [1] (C := [x5 ≠ 1]) (pc' := 151) (ls' := [some (.inr (.inr (0, 0))), some (.inl x1), some (.inl x2), some (.inl x3), some (.inl x4), some (.inl x5), some (.inl x6), some (.inl x7), some (.inl x8), some (.inl x9), some (.inl x10), some (.inl x11), some (.inl x12), o13]) (st' := []) (M' := M) rfl c_7 ?_
        refine Wp.path (k := 1) [] (C := []) (pc' := 153) (ls' := [some (.inr (.inr (0, 0))), some (.inl x1), some (.inl x2), some (.inl x3), some (.inl x4), some (.inl x5), some (.inl x6), some (.inl x7), some (.inl x8), some (.inl x9), some (.inl x10), some (.inl x11), some (.inl x12), o13]) (st' := [.inl x11]) (M' := M) rfl trivial ?_
        exact k_6 _ (by rw [if_pos c_7])
/-- X0_lengthOfKey -/
def E_11 (x1 : Int) (M : Mm) (Q : Int → Mm → Prop) : Prop := Ev 2 11 [.inr (.inr (0, 0)), .inl x1] M (rI Q)
theorem m_11 {x1 : Int} {M : Mm} {Q Q1 : Int → Mm → Prop} (h : E_11 x1 M Q) (k : (∀ r M1, Q r M1 → Q1 r M1)) : E_11 x1 M Q1 := Ev.mono h (fun v M1 ⟨r, h1, h2⟩ => ⟨r, h1, k _ _ h2⟩)
def L_11_21 (x1 : Int) (x2 : Int) (x3 : Int) (x4 : Int) (M : Mm) (Q : Int → Mm → Prop) : Prop := ∀ o5 : Option Vv, Wp 2 11 21 [some (.inr (.inr (0, 0))), some (.inl x1), some (.inl x2), some (.inl x3), some (.inl x4), o5] [] M (rI Q)
theorem s_11_0 {x1 : Int} {M : Mm} {Q : Int → Mm → Prop} (h : (∀ x3 : Int, x3 = atN 52 (M.1 106 0) x1 → (∀ x4 : Int, x4 = atN 53 (M.1 105 0) x1 → (L_11_21 x1 0 x3 x4 M Q)))) : E_11 x1 M Q := by
  show Wp 2 11 0 [some (.inr (.inr (0, 0))), some (.inl x1), none, none, none, none] [] M (rI Q)
  refine Wp.path (k := 5) [] (C := []) (pc' := 7) (ls' := [some (.inr (.inr (0, 0))), some (.inl x1), some (.inl 0), none, none, none]) (st' := [.inl x1, .inr (.inr (106, 0))]) (M' := M) rfl trivial ?_
  refine Wp.call (at_106) rfl rfl (by decide) ?_
  rintro v_ M_ ⟨eM_, ev_⟩
  rw [eM_, ev_]
  clear eM_ ev_ v_ M_
  show Wp 2 11 10 [some (.inr (.inr (0, 0))), some (.inl x1), some (.inl 0), none, none, none] [.inl (atN 52 (M.1 106 0) x1)] M (rI Q)
  refine Wp.path (k := 1) [] (C := []) (pc' := 11) (ls' := [some (.inr (.inr (0, 0))), some (.inl x1), some (.inl 0), some (.inl (atN 52 (M.1 106 0) x1)), none, none]) (st' := []) (M' := M) rfl trivial ?_
  refine Bd (P := fun x3 : Int => Wp 2 11 11 [some (.inr (.inr (0, 0))), some (.inl x1), some (.inl 0), some (.inl x3), none, none] [] M (rI Q)) ?_
  intro x3 e_x3
  replace h := h x3 e_x3
  refine Wp.path (k := 3) [] (C := []) (pc' := 16) (ls' := [some (.inr (.inr (0, 0))), some (.inl x1), some (.inl 0), some (.inl x3), none, none]) (st' := [.inl x1, .inr (.inr (105, 0))]) (M' := M) rfl trivial ?_
  refine Wp.call (at_105) rfl rfl (by decide) ?_
  rintro v_ M_ ⟨eM_, ev_⟩
  rw [eM_, ev_]
  clear eM_ ev_ v_ M_
  show Wp 2 11 19 [some (.inr (.inr (0, 0))), some (.inl x1), some (.inl 0), some (.inl x3), none, none] [.inl (atN 53 (M.1 105 0) x1)] M (rI Q)
  refine Wp.path (k := 1) [] (C := []) (pc' := 21) (ls' := [some (.inr (.inr (0, 0))), some (.inl x1), some (.inl 0), some (.inl x3), some (.inl (atN 53 (M.1 105 0) x1)), none]) (st' := []) (M' := M) rfl trivial ?_
  refine Bd (P := fun x4 : Int => Wp 2 11 21 [some (.inr (.inr (0, 0))), some (.inl x1), some (.inl 0), some (.inl x3), some (.inl x4), none] [] M (rI Q)) ?_
  intro x4 e_x4
  replace h := h x4 e_x4
  exact h _
theorem s_11_21 {x1 : Int} {x2 : Int} {x3 : Int} {x4 : Int} {M : Mm} {Q : Int → Mm → Prop} (h : ((x3 ≤ x4 → (Q x2 M)) ∧ (x4 < x3 → (∀ x5 : Int, x5 = atN 340 (M.1 104 0) x4 → (((-2147483648 ≤ (atN 340 (M.1 103 0) x5) - (atN 340 (M.1 102 0) x5) ∧ (atN 340 (M.1 103 0) x5) - (atN 340 (M.1 102 0) x5) ≤ 2147483647) ∧ (-2147483648 ≤ x2 + ((atN 340 (M.1 103 0) x5) - (atN 340 (M.1 102 0) x5)) ∧ x2 + ((atN 340 (M.1 103 0) x5) - (atN 340 (M.1 102 0) x5)) ≤ 2147483647)) ∧ (∀ x2_1 : Int, x2_1 = x2 + ((atN 340 (M.1 103 0) x5) - (atN 340 (M.1 102 0) x5)) → (((-2147483648 ≤ x4 + 1 ∧ x4 + 1 ≤ 2147483647)) ∧ (L_11_21 x1 x2_1 x3 (x4 + 1) M Q)))))))) : L_11_21 x1 x2 x3 x4 M Q := by
  intro o5
  show Wp 2 11 21 [some (.inr (.inr (0, 0))), some (.inl x1), some (.inl x2), some (.inl x3), some (.inl x4), o5] [] M (rI Q)
  refine Wp.path (k := 2) [] (C := []) (pc' := 24) (ls' := [some (.inr (.inr (0, 0))), some (.inl x1), some (.inl x2), some (.inl x3), some (.inl x4), o5]) (st' := [.inl x3, .inl x4]) (M' := M) rfl trivial ?_
  rcases Int.lt_or_le (x4) (x3) with c_1 | c_1
  · replace h := h.2 c_1
    refine Wp.path (k := 1) [0] (C := [x4 < x3]) (pc' := 27) (ls' := [some (.inr (.inr (0, 0))), some (.inl x1), some (.inl x2), some (.inl x3), some (.inl x4), o5]) (st' := []) (M' := M) rfl c_1 ?_
    refine Wp.path (k := 3) [] (C := []) (pc' := 33) (ls' := [some (.inr (.inr (0, 0))), some (.inl x1), some (.inl x2), some (.inl x3), some (.inl x4), o5]) (st' := [.inl x4, .inr (.inr (104, 0))]) (M' := M) rfl trivial ?_
    refine Wp.call (at_104) rfl rfl (by decide) ?_
    rintro v_ M_ ⟨eM_, ev_⟩
    rw [eM_, ev_]
    clear eM_ ev_ v_ M_
    show Wp 2 11 36 [some (.inr (.inr (0, 0))), some (.inl x1), some (.inl x2), some (.inl x3), some (.inl x4), o5] [.inl (atN 340 (M.1 104 0) x4)] M (rI Q)
    refine Wp.path (k := 1) [] (C := []) (pc' := 38) (ls' := [some (.inr (.inr (0, 0))), some (.inl x1), some (.inl x2), some (.inl x3), some (.inl x4), some (.inl (atN 340 (M.1 104 0) x4))]) (st' := []) (M' := M) rfl trivial ?_
    refine Bd (P := fun x5 : Int => Wp 2 11 38 [some (.inr (.inr (0, 0))), some (.inl x1), some (.inl x2), some (.inl x3), some (.inl x4), some (.inl x5)] [] M (rI Q)) ?_
    intro x5 e_x5
    replace h := h x5 e_x5
    refine Wp.path (k := 3) [] (C := []) (pc' := 42) (ls' := [some (.inr (.inr (0, 0))), some (.inl x1), some (.inl x2), some (.inl x3), some (.inl x4), some (.inl x5)]) (st' := [.inl x5, .inr (.inr (0, 0)), .inl x2]) (M' := M) rfl trivial ?_
    refine Wp.call (e7) rfl rfl (by decide) ?_
    rintro v_ M_ ⟨eM_, ev_⟩
    rw [eM_, ev_]
    clear eM_ ev_ v_ M_
    show Wp 2 11 45 [some (.inr (.inr (0, 0))), some (.inl x1), some (.inl x2), some (.inl x3), some (.inl x4), some (.inl x5)] [.inl (atN 340 (M.1 103 0) x5), .inl x2] M (rI Q)
    refine Wp.path (k := 2) [] (C := []) (pc' := 48) (ls' := [some (.inr (.inr (0, 0))), some (.inl x1), some (.inl x2), some (.inl x3), some (.inl x4), some (.inl x5)]) (st' := [.inl x5, .inr (.inr (0, 0)), .inl (atN 340 (M.1 103 0) x5), .inl x2]) (M' := M) rfl trivial ?_
    refine Wp.call (e6) rfl rfl (by decide) ?_
    rintro v_ M_ ⟨eM_, ev_⟩
    rw [eM_, ev_]
    clear eM_ ev_ v_ M_
    show Wp 2 11 51 [some (.inr (.inr (0, 0))), some (.inl x1), some (.inl x2), some (.inl x3), some (.inl x4), some (.inl x5)] [.inl (atN 340 (M.1 102 0) x5), .inl (atN 340 (M.1 103 0) x5), .inl x2] M (rI Q)
    refine Wp.path (k := 3) [] (C := [inR ((atN 340 (M.1 103 0) x5) - (atN 340 (M.1 102 0) x5)), inR (x2 + ((atN 340 (M.1 103 0) x5) - (atN 340 (M.1 102 0) x5)))]) (pc' := 54) (ls' := [some (.inr (.inr (0, 0))), some (.inl x1), some (.inl (x2 + ((atN 340 (M.1 103 0) x5) - (atN 340 (M.1 102 0) x5)))), some (.inl x3), some (.inl x4), some (.inl x5)]) (st' := []) (M' := M) rfl ⟨h.1.1, h.1.2⟩ ?_
    replace h := h.2
    refine Bd (P := fun x2_1 : Int => Wp 2 11 54 [some (.inr (.inr (0, 0))), some (.inl x1), some (.inl x2_1), some (.inl x3), some (.inl x4), some (.inl x5)] [] M (rI Q)) ?_
    intro x2_1 e_x2_1
    replace h := h x2_1 e_x2_1
    refine Wp.path (k := 2) [] (C := [inR (x4 + 1)]) (pc' := 21) (ls' := [some (.inr (.inr (0, 0))), some (.inl x1), some (.inl x2_1), some (.inl x3), some (.inl (x4 + 1)), some (.inl x5)]) (st' := []) (M' := M) rfl h.1 ?_
    replace h := h.2
    exact h _
  · replace h := h.1 c_1
    refine Wp.path (k := 1) [1] (C := [x3 ≤ x4]) (pc' := 60) (ls' := [some (.inr (.inr (0, 0))), some (.inl x1), some (.inl x2), some (.inl x3), some (.inl x4), o5]) (st' := []) (M' := M) rfl c_1 ?_
    refine Wp.path (k := 1) [] (C := []) (pc' := 61) (ls' := [some (.inr (.inr (0, 0))), some (.inl x1), some (.inl x2), some (.inl x3), some (.inl x4), o5]) (st' := [.inl x2]) (M' := M) rfl trivial ?_
    exact Wp.ret rfl ⟨_, rfl, h⟩
/-- X0_groupProperty -/
def E_10 (x1 : Int) (x2 : Int) (M : Mm) (Q : Int → Mm → Prop) : Prop := Ev 3 10 [.inr (.inr (0, 0)), .inl x1, .inl x2] M (rI Q)
theorem m_10 {x1 : Int} {x2 : Int} {M : Mm} {Q Q1 : Int → Mm → Prop} (h : E_10 x1 x2 M Q) (k : (∀ r M1, Q r M1 → Q1 r M1)) : E_10 x1 x2 M Q1 := Ev.mono h (fun v M1 ⟨r, h1, h2⟩ => ⟨r, h1, k _ _ h2⟩)
theorem s_10_0 {x1 : Int} {x2 : Int} {M : Mm} {Q : Int → Mm → Prop} (h : (∀ x3 : Int, x3 = atN 52 (M.1 107 0) x1 → ((x2 = 0 → (((-2147483648 ≤ x3 ∧ x3 ≤ 2147483647)) ∧ (∀ d : Int, d = Int.tdiv x3 13 → (Q d M)))) ∧ (x2 = 1 → (((-2147483648 ≤ x3 ∧ x3 ≤ 2147483647)) ∧ (∀ d_1 : Int, d_1 = Int.tmod x3 13 → (Q d_1 M)))) ∧ (x2 = 2 → (((-2147483648 ≤ (atN 52 (M.1 106 0) x3) - (atN 53 (M.1 105 0) x3) ∧ (atN 52 (M.1 106 0) x3) - (atN 53 (M.1 105 0) x3) ≤ 2147483647)) ∧ (Q ((atN 52 (M.1 106 0) x3) - (atN 53 (M.1 105 0) x3)) M))) ∧ (x2 ≠ 0 ∧ x2 ≠ 1 ∧ x2 ≠ 2 → (E_11 x3 M (fun (r : Int) (M1 : Mm) => (Q r M1))))))) : E_10 x1 x2 M Q := by
  show Wp 3 10 0 [some (.inr (.inr (0, 0))), some (.inl x1), some (.inl x2), none] [] M (rI Q)
  refine Wp.path (k := 3) [] (C := []) (pc' := 5) (ls' := [some (.inr (.inr (0, 0))), some (.inl x1), some (.inl x2), none]) (st' := [.inl x1, .inr (.inr (107, 0))]) (M' := M) rfl trivial ?_
  refine Wp.call (at_107) rfl rfl (by decide) ?_
  rintro v_ M_ ⟨eM_, ev_⟩
  rw [eM_, ev_]
  clear eM_ ev_ v_ M_
  show Wp 3 10 8 [some (.inr (.inr (0, 0))), some (.inl x1), some (.inl x2), none] [.inl (atN 52 (M.1 107 0) x1)] M (rI Q)
  refine Wp.path (k := 1) [] (C := []) (pc' := 9) (ls' := [some (.inr (.inr (0, 0))), some (.inl x1), some (.inl x2), some (.inl (atN 52 (M.1 107 0) x1))]) (st' := []) (M' := M) rfl trivial ?_
  refine Bd (P := fun x3 : Int => Wp 3 10 9 [some (.inr (.inr (0, 0))), some (.inl x1), some (.inl x2), some (.inl x3)] [] M (rI Q)) ?_
  intro x3 e_x3
  replace h := h x3 e_x3
  refine Wp.path (k := 1) [] (C := []) (pc' := 10) (ls' := [some (.inr (.inr (0, 0))), some (.inl x1), some (.inl x2), some (.inl x3)]) (st' := [.inl x2]) (M' := M) rfl trivial ?_
  rcases Decidable.em (x2 = 0) with c_1 | c_1
  · replace h := h.1 c_1
    refine Wp.path (k := 1) [36] (C := [tswT 10 54 0 2 #[26, 31, 36] x2 = 36]) (pc' := 36) (ls' := [some (.inr (.inr (0, 0))), some (.inl x1), some (.inl x2), some (.inl x3)]) (st' := []) (M' := M) rfl (by rw [c_1]; rfl) ?_
    refine Wp.path (k := 3) [] (C := [inR x3 ∧ 0 < 13 ∧ inR 13]) (pc' := 40) (ls' := [some (.inr (.inr (0, 0))), some (.inl x1), some (.inl x2), some (.inl x3)]) (st' := [.inl (Int.tdiv x3 13)]) (M' := M) rfl ⟨h.1, by decide, ⟨by decide, by decide⟩⟩ ?_
    replace h := h.2
    refine Bd (P := fun d : Int => Wp 3 10 40 [some (.inr (.inr (0, 0))), some (.inl x1), some (.inl x2), some (.inl x3)] [.inl d] M (rI Q)) ?_
    intro d e_d
    replace h := h d e_d
    exact Wp.ret rfl ⟨_, rfl, h⟩
  replace h := h.2
  rcases Decidable.em (x2 = 1) with c_2 | c_2
  · replace h := h.1 c_2
    refine Wp.path (k := 1) [41] (C := [tswT 10 54 0 2 #[26, 31, 36] x2 = 41]) (pc' := 41) (ls' := [some (.inr (.inr (0, 0))), some (.inl x1), some (.inl x2), some (.inl x3)]) (st' := []) (M' := M) rfl (by rw [c_2]; rfl) ?_
    refine Wp.path (k := 3) [] (C := [inR x3 ∧ 0 < 13 ∧ inR 13]) (pc' := 45) (ls' := [some (.inr (.inr (0, 0))), some (.inl x1), some (.inl x2), some (.inl x3)]) (st' := [.inl (Int.tmod x3 13)]) (M' := M) rfl ⟨h.1, by decide, ⟨by decide, by decide⟩⟩ ?_
    replace h := h.2
    refine Bd (P := fun d_1 : Int => Wp 3 10 45 [some (.inr (.inr (0, 0))), some (.inl x1), some (.inl x2), some (.inl x3)] [.inl d_1] M (rI Q)) ?_
    intro d_1 e_d_1
    replace h := h d_1 e_d_1
    exact Wp.ret rfl ⟨_, rfl, h⟩
  replace h := h.2
  rcases Decidable.em (x2 = 2) with c_3 | c_3
  · replace h := h.1 c_3
    refine Wp.path (k := 1) [46] (C := [tswT 10 54 0 2 #[26, 31, 36] x2 = 46]) (pc' := 46) (ls' := [some (.inr (.inr (0, 0))), some (.inl x1), some (.inl x2), some (.inl x3)]) (st' := []) (M' := M) rfl (by rw [c_3]; rfl) ?_
    refine Wp.path (k := 3) [] (C := []) (pc' := 51) (ls' := [some (.inr (.inr (0, 0))), some (.inl x1), some (.inl x2), some (.inl x3)]) (st' := [.inl x3, .inr (.inr (106, 0))]) (M' := M) rfl trivial ?_
    refine Wp.call (at_106) rfl rfl (by decide) ?_
    rintro v_ M_ ⟨eM_, ev_⟩
    rw [eM_, ev_]
    clear eM_ ev_ v_ M_
    show Wp 3 10 54 [some (.inr (.inr (0, 0))), some (.inl x1), some (.inl x2), some (.inl x3)] [.inl (atN 52 (M.1 106 0) x3)] M (rI Q)
    refine Wp.path (k := 3) [] (C := []) (pc' := 59) (ls' := [some (.inr (.inr (0, 0))), some (.inl x1), some (.inl x2), some (.inl x3)]) (st' := [.inl x3, .inr (.inr (105, 0)), .inl (atN 52 (M.1 106 0) x3)]) (M' := M) rfl trivial ?_
    refine Wp.call (at_105) rfl rfl (by decide) ?_
    rintro v_ M_ ⟨eM_, ev_⟩
    rw [eM_, ev_]
    clear eM_ ev_ v_ M_
    show Wp 3 10 62 [some (.inr (.inr (0, 0))), some (.inl x1), some (.inl x2), some (.inl x3)] [.inl (atN 53 (M.1 105 0) x3), .inl (atN 52 (M.1 106 0) x3)] M (rI Q)
    refine Wp.path (k := 1) [] (C := [inR ((atN 52 (M.1 106 0) x3) - (atN 53 (M.1 105 0) x3))]) (pc' := 63) (ls' := [some (.inr (.inr (0, 0))), some (.inl x1), some (.inl x2), some (.inl x3)]) (st' := [.inl ((atN 52 (M.1 106 0) x3) - (atN 53 (M.1 105 0) x3))]) (M' := M) rfl h.1 ?_
    replace h := h.2
    exact Wp.ret rfl ⟨_, rfl, h⟩
  replace h := h.2
  replace h := h ⟨c_1, c_2, c_3⟩
  refine Wp.path (k := 1) [64] (C := [tswT 10 54 0 2 #[26, 31, 36] x2 = 64]) (pc' := 64) (ls' := [some (.inr (.inr (0, 0))), some (.inl x1), some (.inl x2), some (.inl x3)]) (st' := []) (M' := M) rfl ((tsw_d (by omega)).trans rfl) ?_
  refine Wp.path (k := 2) [] (C := []) (pc' := 66) (ls' := [some (.inr (.inr (0, 0))), some (.inl x1), some (.inl x2), some (.inl x3)]) (st' := [.inl x3, .inr (.inr (0, 0))]) (M' := M) rfl trivial ?_
  refine Wp.call h rfl rfl (by decide) ?_
  rintro _ M1 ⟨r, rfl, h⟩
  show Wp 3 10 69 [some (.inr (.inr (0, 0))), some (.inl x1), some (.inl x2), some (.inl x3)] [.inl r] M1 (rI Q)
  exact Wp.ret rfl ⟨_, rfl, h⟩
/-- X1_record -/
def E_101 (i1 : Nat) (M : Mm) (Q : Mm → Prop) : Prop := Ev 1 101 [.inr (.inr (1, 0)), .inr (.inr (4, i1))] M (rV Q)
theorem m_101 {i1 : Nat} {M : Mm} {Q Q1 : Mm → Prop} (h : E_101 i1 M Q) (k : (∀ M1, Q M1 → Q1 M1)) : E_101 i1 M Q1 := Ev.mono h (fun v M1 h => ⟨h.1, k _ h.2⟩)
def L_101_15 (i1 : Nat) (x2 : Int) (M : Mm) (Q : Mm → Prop) : Prop := Wp 1 101 15 [some (.inr (.inr (1, 0))), some (.inr (.inr (4, i1))), some (.inl x2)] [] M (rV Q)
theorem s_101_0 {i1 : Nat} {M : Mm} {Q : Mm → Prop} (h : ((-2147483648 ≤ (M.1 1 0 1) + 1 ∧ (M.1 1 0 1) + 1 ≤ 2147483647)) ∧ (∀ d : Int, d = Int.tmod ((M.1 1 0 1) + 1) 9 → (∀ M1 : Mm, M1 = setI M 1 0 1 d → (L_101_15 i1 0 M1 Q)))) : E_101 i1 M Q := by
  show Wp 1 101 0 [some (.inr (.inr (1, 0))), some (.inr (.inr (4, i1))), none] [] M (rV Q)
  refine Wp.path (k := 7) [] (C := [inR ((M.1 1 0 1) + 1), inR ((M.1 1 0 1) + 1) ∧ 0 < 9 ∧ inR 9]) (pc' := 10) (ls' := [some (.inr (.inr (1, 0))), some (.inr (.inr (4, i1))), none]) (st' := [.inl (Int.tmod ((M.1 1 0 1) + 1) 9), .inr (.inr (1, 0))]) (M' := M) rfl ⟨h.1, ⟨h.1, by decide, ⟨by decide, by decide⟩⟩⟩ ?_
  replace h := h.2
  refine Bd (P := fun d : Int => Wp 1 101 10 [some (.inr (.inr (1, 0))), some (.inr (.inr (4, i1))), none] [.inl d, .inr (.inr (1, 0))] M (rV Q)) ?_
  intro d e_d
  replace h := h d e_d
  refine Wp.path (k := 1) [] (C := []) (pc' := 13) (ls' := [some (.inr (.inr (1, 0))), some (.inr (.inr (4, i1))), none]) (st' := []) (M' := setI M 1 0 1 d) rfl trivial ?_
  refine Bd (P := fun M1 : Mm => Wp 1 101 13 [some (.inr (.inr (1, 0))), some (.inr (.inr (4, i1))), none] [] M1 (rV Q)) ?_
  intro M1 e_M1
  replace h := h M1 e_M1
  refine Wp.path (k := 2) [] (C := []) (pc' := 15) (ls' := [some (.inr (.inr (1, 0))), some (.inr (.inr (4, i1))), some (.inl 0)]) (st' := []) (M' := M1) rfl trivial ?_
  exact h
theorem s_101_15 {i1 : Nat} {x2 : Int} {M : Mm} {Q : Mm → Prop} (h : ((12 ≤ x2 → (((-2147483648 ≤ (M.1 1 0 2) + 1 ∧ (M.1 1 0 2) + 1 ≤ 2147483647)) ∧ (∀ M1_1 : Mm, M1_1 = setI M 1 0 2 (if 8 < (M.1 1 0 2) + 1 then 8 else (M.1 1 0 2) + 1) → (∀ M1_2 : Mm, M1_2 = setI M1_1 1 0 3 0 → (Q M1_2))))) ∧ (x2 < 12 → (((-2147483648 ≤ (M.1 1 0 1) * 12 ∧ (M.1 1 0 1) * 12 ≤ 2147483647) ∧ (-2147483648 ≤ ((M.1 1 0 1) * 12) + x2 ∧ ((M.1 1 0 1) * 12) + x2 ≤ 2147483647)) ∧ (∀ M1 : Mm, M1 = setA M 200 0 (putN 108 (M.1 200 0) (((M.1 1 0 1) * 12) + x2) (atN 12 (M.1 500 i1) x2)) → (((-2147483648 ≤ x2 + 1 ∧ x2 + 1 ≤ 2147483647)) ∧ (L_101_15 i1 (x2 + 1) M1 Q))))))) : L_101_15 i1 x2 M Q := by
  show Wp 1 101 15 [some (.inr (.inr (1, 0))), some (.inr (.inr (4, i1))), some (.inl x2)] [] M (rV Q)
  refine Wp.path (k := 2) [] (C := []) (pc' := 18) (ls' := [some (.inr (.inr (1, 0))), some (.inr (.inr (4, i1))), some (.inl x2)]) (st' := [.inl 12, .inl x2]) (M' := M) rfl trivial ?_
  rcases Int.lt_or_le (x2) (12) with c_1 | c_1
  · replace h := h.2 c_1
    refine Wp.path (k := 1) [0] (C := [x2 < 12]) (pc' := 21) (ls' := [some (.inr (.inr (1, 0))), some (.inr (.inr (4, i1))), some (.inl x2)]) (st' := []) (M' := M) rfl c_1 ?_
    refine Wp.path (k := 11) [] (C := [inR ((M.1 1 0 1) * 12), inR (((M.1 1 0 1) * 12) + x2)]) (pc' := 39) (ls' := [some (.inr (.inr (1, 0))), some (.inr (.inr (4, i1))), some (.inl x2)]) (st' := [.inl x2, .inr (.inr (500, i1)), .inl (((M.1 1 0 1) * 12) + x2), .inr (.inr (200, 0))]) (M' := M) rfl ⟨h.1.1, h.1.2⟩ ?_
    replace h := h.2
    refine Wp.call (at_500) rfl rfl (by decide) ?_
    rintro v_ M_ ⟨eM_, ev_⟩
    rw [eM_, ev_]
    clear eM_ ev_ v_ M_
    show Wp 1 101 42 [some (.inr (.inr (1, 0))), some (.inr (.inr (4, i1))), some (.inl x2)] [.inl (atN 12 (M.1 500 i1) x2), .inl (((M.1 1 0 1) * 12) + x2), .inr (.inr (200, 0))] M (rV Q)
    refine Wp.call (put_200) rfl rfl (by decide) ?_
    rintro v_ M_ ⟨eM_, ev_⟩
    rw [eM_, ev_]
    clear eM_ ev_ v_ M_
    refine Bd (e := setA M 200 0 (putN 108 (M.1 200 0) (((M.1 1 0 1) * 12) + x2) (atN 12 (M.1 500 i1) x2))) (P := fun M1 : Mm => Wp 1 101 45 [some (.inr (.inr (1, 0))), some (.inr (.inr (4, i1))), some (.inl x2)] [] M1 (rV Q)) ?_
    intro M1 e_M1
    replace h := h M1 e_M1
    refine Wp.path (k := 2) [] (C := [inR (x2 + 1)]) (pc' := 15) (ls' := [some (.inr (.inr (1, 0))), some (.inr (.inr (4, i1))), some (.inl (x2 + 1))]) (st' := []) (M' := M1) rfl h.1 ?_
    replace h := h.2
    exact h
  · replace h := h.1 c_1
    refine Wp.path (k := 1) [1] (C := [12 ≤ x2]) (pc' := 51) (ls' := [some (.inr (.inr (1, 0))), some (.inr (.inr (4, i1))), some (.inl x2)]) (st' := []) (M' := M) rfl c_1 ?_
    refine Wp.path (k := 8) [] (C := [inR ((M.1 1 0 2) + 1)]) (pc' := 66) (ls' := [some (.inr (.inr (1, 0))), some (.inr (.inr (4, i1))), some (.inl x2)]) (st' := []) (M' := setI M 1 0 2 (if 8 < (M.1 1 0 2) + 1 then 8 else (M.1 1 0 2) + 1)) rfl h.1 ?_
    replace h := h.2
    refine Bd (P := fun M1_1 : Mm => Wp 1 101 66 [some (.inr (.inr (1, 0))), some (.inr (.inr (4, i1))), some (.inl x2)] [] M1_1 (rV Q)) ?_
    intro M1_1 e_M1_1
    replace h := h M1_1 e_M1_1
    refine Wp.path (k := 3) [] (C := []) (pc' := 71) (ls' := [some (.inr (.inr (1, 0))), some (.inr (.inr (4, i1))), some (.inl x2)]) (st' := []) (M' := setI M1_1 1 0 3 0) rfl trivial ?_
    refine Bd (P := fun M1_2 : Mm => Wp 1 101 71 [some (.inr (.inr (1, 0))), some (.inr (.inr (4, i1))), some (.inl x2)] [] M1_2 (rV Q)) ?_
    intro M1_2 e_M1_2
    replace h := h M1_2 e_M1_2
    exact Wp.ret rfl ⟨rfl, h⟩
/-- X2_findBends -/
def E_202 (i0 : Nat) (i1 : Nat) (M : Mm) (Q : Mm → Prop) : Prop := Ev 2 202 [.inr (.inr (2, i0)), .inr (.inr (3, i1))] M (rV Q)
theorem m_202 {i0 : Nat} {i1 : Nat} {M : Mm} {Q Q1 : Mm → Prop} (h : E_202 i0 i1 M Q) (k : (∀ M1, Q M1 → Q1 M1)) : E_202 i0 i1 M Q1 := Ev.mono h (fun v M1 h => ⟨h.1, k _ h.2⟩)
def L_202_2 (i0 : Nat) (i1 : Nat) (x2 : Int) (M : Mm) (Q : Mm → Prop) : Prop := ∀ o3 o4 : Option Vv, Wp 2 202 2 [some (.inr (.inr (2, i0))), some (.inr (.inr (3, i1))), some (.inl x2), o3, o4] [] M (rV Q)
theorem s_202_0 {i0 : Nat} {i1 : Nat} {M : Mm} {Q : Mm → Prop} (h : (L_202_2 i0 i1 0 M Q)) : E_202 i0 i1 M Q := by
  show Wp 2 202 0 [some (.inr (.inr (2, i0))), some (.inr (.inr (3, i1))), none, none, none] [] M (rV Q)
  refine Wp.path (k := 2) [] (C := []) (pc' := 2) (ls' := [some (.inr (.inr (2, i0))), some (.inr (.inr (3, i1))), some (.inl 0), none, none]) (st' := []) (M' := M) rfl trivial ?_
  exact h _ _
theorem s_202_2 {i0 : Nat} {i1 : Nat} {x2 : Int} {M : Mm} {Q : Mm → Prop} (h : ((49 ≤ x2 → (Q M)) ∧ (x2 < 49 → ((49 ≤ x2 → (Q M)) ∧ (x2 < 49 → (((-2147483648 ≤ x2 - 1 ∧ x2 - 1 ≤ 2147483647)) ∧ (∀ x3 : Int64, x3 = (atJ 48 (M.2 401 i1) (x2 - 1)) ^^^ (atJ 48 (M.2 401 i1) x2) → (((0 ≤ x2 ∧ x2 < 49)) ∧ (∀ M1 : Mm, M1 = setJ M 309 i0 x2.toNat ((x3 ^^^ (lsh x3 1)) &&& (Int64.ofInt 562949953421311)) → (((0 ≤ x2 ∧ x2 < 49)) ∧ (∀ M1_1 : Mm, M1_1 = setJ M1 310 i0 x2.toNat (M1.2 309 i0 x2.toNat) → (((-2147483648 ≤ x2 + 1 ∧ x2 + 1 ≤ 2147483647)) ∧ (L_202_2 i0 i1 (x2 + 1) M1_1 Q))))))))))))) : L_202_2 i0 i1 x2 M Q := by
  intro o3 o4
  show Wp 2 202 2 [some (.inr (.inr (2, i0))), some (.inr (.inr (3, i1))), some (.inl x2), o3, o4] [] M (rV Q)
  refine Wp.path (k := 4) [] (C := []) (pc' := 8) (ls' := [some (.inr (.inr (2, i0))), some (.inr (.inr (3, i1))), some (.inl x2), o3, o4]) (st' := [.inl 49, .inl x2]) (M' := M) rfl trivial ?_
  rcases Int.lt_or_le (x2) (49) with c_1 | c_1
  · replace h := h.2 c_1
    refine Wp.path (k := 1) [0] (C := [x2 < 49]) (pc' := 11) (ls' := [some (.inr (.inr (2, i0))), some (.inr (.inr (3, i1))), some (.inl x2), o3, o4]) (st' := []) (M' := M) rfl c_1 ?_
    refine Wp.path (k := 4) [] (C := []) (pc' := 17) (ls' := [some (.inr (.inr (2, i0))), some (.inr (.inr (3, i1))), some (.inl x2), o3, o4]) (st' := [.inl 49, .inl x2]) (M' := M) rfl trivial ?_
    rcases Int.lt_or_le (x2) (49) with c_2 | c_2
    · replace h := h.2 c_2
      refine Wp.path (k := 1) [0] (C := [x2 < 49]) (pc' := 20) (ls' := [some (.inr (.inr (2, i0))), some (.inr (.inr (3, i1))), some (.inl x2), o3, o4]) (st' := []) (M' := M) rfl c_2 ?_
      refine Wp.path (k := 4) [] (C := [inR (x2 - 1)]) (pc' := 24) (ls' := [some (.inr (.inr (2, i0))), some (.inr (.inr (3, i1))), some (.inl x2), o3, o4]) (st' := [.inl (x2 - 1), .inr (.inr (3, i1))]) (M' := M) rfl h.1 ?_
      replace h := h.2
      refine Wp.call (e302) rfl rfl (by decide) ?_
      rintro v_ M_ ⟨eM_, ev_⟩
      rw [eM_, ev_]
      clear eM_ ev_ v_ M_
      show Wp 2 202 27 [some (.inr (.inr (2, i0))), some (.inr (.inr (3, i1))), some (.inl x2), o3, o4] [.inr (.inl (atJ 48 (M.2 401 i1) (x2 - 1)))] M (rV Q)
      refine Wp.path (k := 2) [] (C := []) (pc' := 29) (ls' := [some (.inr (.inr (2, i0))), some (.inr (.inr (3, i1))), some (.inl x2), o3, o4]) (st' := [.inl x2, .inr (.inr (3, i1)), .inr (.inl (atJ 48 (M.2 401 i1) (x2 - 1)))]) (M' := M) rfl trivial ?_
      refine Wp.call (e302) rfl rfl (by decide) ?_
      rintro v_ M_ ⟨eM_, ev_⟩
      rw [eM_, ev_]
      clear eM_ ev_ v_ M_
      show Wp 2 202 32 [some (.inr (.inr (2, i0))), some (.inr (.inr (3, i1))), some (.inl x2), o3, o4] [.inr (.inl (atJ 48 (M.2 401 i1) x2)), .inr (.inl (atJ 48 (M.2 401 i1) (x2 - 1)))] M (rV Q)
      refine Wp.path (k := 2) [] (C := []) (pc' := 34) (ls' := [some (.inr (.inr (2, i0))), some (.inr (.inr (3, i1))), some (.inl x2), some (.inr (.inl ((atJ 48 (M.2 401 i1) (x2 - 1)) ^^^ (atJ 48 (M.2 401 i1) x2)))), none]) (st' := []) (M' := M) rfl trivial ?_
      refine Bd (P := fun x3 : Int64 => Wp 2 202 34 [some (.inr (.inr (2, i0))), some (.inr (.inr (3, i1))), some (.inl x2), some (.inr (.inl x3)), none] [] M (rV Q)) ?_
      intro x3 e_x3
      replace h := h x3 e_x3
      refine Wp.path (k := 11) [] (C := [0 ≤ x2 ∧ x2 < 49]) (pc' := 49) (ls' := [some (.inr (.inr (2, i0))), some (.inr (.inr (3, i1))), some (.inl x2), some (.inr (.inl x3)), none]) (st' := []) (M' := setJ M 309 i0 x2.toNat ((x3 ^^^ (lsh x3 1)) &&& (Int64.ofInt 562949953421311))) rfl h.1 ?_
      replace h := h.2
      refine Bd (P := fun M1 : Mm => Wp 2 202 49 [some (.inr (.inr (2, i0))), some (.inr (.inr (3, i1))), some (.inl x2), some (.inr (.inl x3)), none] [] M1 (rV Q)) ?_
      intro M1 e_M1
      replace h := h M1 e_M1
      refine Wp.path (k := 8) [] (C := [0 ≤ x2 ∧ x2 < 49, 0 ≤ x2 ∧ x2 < 49]) (pc' := 61) (ls' := [some (.inr (.inr (2, i0))), some (.inr (.inr (3, i1))), some (.inl x2), some (.inr (.inl x3)), none]) (st' := []) (M' := setJ M1 310 i0 x2.toNat (M1.2 309 i0 x2.toNat)) rfl ⟨h.1, h.1⟩ ?_
      replace h := h.2
      refine Bd (P := fun M1_1 : Mm => Wp 2 202 61 [some (.inr (.inr (2, i0))), some (.inr (.inr (3, i1))), some (.inl x2), some (.inr (.inl x3)), none] [] M1_1 (rV Q)) ?_
      intro M1_1 e_M1_1
      replace h := h M1_1 e_M1_1
      refine Wp.path (k := 2) [] (C := [inR (x2 + 1)]) (pc' := 2) (ls' := [some (.inr (.inr (2, i0))), some (.inr (.inr (3, i1))), some (.inl (x2 + 1)), some (.inr (.inl x3)), none]) (st' := []) (M' := M1_1) rfl h.1 ?_
      replace h := h.2
      exact h _ _
    · replace h := h.1 c_2
      refine Wp.path (k := 1) [1] (C := [49 ≤ x2]) (pc' := 67) (ls' := [some (.inr (.inr (2, i0))), some (.inr (.inr (3, i1))), some (.inl x2), o3, o4]) (st' := []) (M' := M) rfl c_2 ?_
      exact Wp.ret rfl ⟨rfl, h⟩
  · replace h := h.1 c_1
    refine Wp.path (k := 1) [1] (C := [49 ≤ x2]) (pc' := 67) (ls' := [some (.inr (.inr (2, i0))), some (.inr (.inr (3, i1))), some (.inl x2), o3, o4]) (st' := []) (M' := M) rfl c_1 ?_
    exact Wp.ret rfl ⟨rfl, h⟩
/-- X2_addSide -/
def E_204 (i0 : Nat) (x1 : Int) (x2 : Int) (x3 : Int) (x4 : Int) (M : Mm) (Q : Mm → Prop) : Prop := Ev 1 204 [.inr (.inr (2, i0)), .inl x1, .inl x2, .inl x3, .inl x4] M (rV Q)
theorem m_204 {i0 : Nat} {x1 : Int} {x2 : Int} {x3 : Int} {x4 : Int} {M : Mm} {Q Q1 : Mm → Prop} (h : E_204 i0 x1 x2 x3 x4 M Q) (k : (∀ M1, Q M1 → Q1 M1)) : E_204 i0 x1 x2 x3 x4 M Q1 := Ev.mono h (fun v M1 h => ⟨h.1, k _ h.2⟩)
theorem s_204_0 {i0 : Nat} {x1 : Int} {x2 : Int} {x3 : Int} {x4 : Int} {M : Mm} {Q : Mm → Prop} (h : ((x2 < 0 → (∀ b : Int, b = (if levV x3 = 0 then x2 else x1) → (∀ b_1 : Int, b_1 = (if x3 = 0 then 1 else (if x3 ≠ 1 then 0 else 1)) → (∀ M1 : Mm, M1 = setA M 305 i0 (putN 340 (M.1 305 i0) (M.1 2 i0 13) x3) → (∀ b_2 : Int, b_2 = (if levV x3 = 0 then x1 else x2) → (∀ M1_1 : Mm, M1_1 = setA M1 306 i0 (putN 340 (M1.1 306 i0) (M1.1 2 i0 13) b_2) → ((b_1 = 0 → ((-2147483648 ≤ b - x4 ∧ b - x4 ≤ 2147483647))) ∧ (∀ b_3 : Int, b_3 = (if b_1 = 0 then (b - x4) else b) → (∀ M1_2 : Mm, M1_2 = setA M1_1 307 i0 (putN 340 (M1_1.1 307 i0) (M1_1.1 2 i0 13) b_3) → ((b_1 ≠ 0 → ((-2147483648 ≤ b + x4 ∧ b + x4 ≤ 2147483647))) ∧ (∀ b_4 : Int, b_4 = (if b_1 = 0 then b else (b + x4)) → (∀ M1_3 : Mm, M1_3 = setA M1_2 308 i0 (putN 340 (M1_2.1 308 i0) (M1_2.1 2 i0 13) b_4) → (((-2147483648 ≤ (M1_3.1 2 i0 13) + 1 ∧ (M1_3.1 2 i0 13) + 1 ≤ 2147483647)) ∧ (∀ M1_4 : Mm, M1_4 = setI M1_3 2 i0 13 ((M1_3.1 2 i0 13) + 1) → (Q M1_4))))))))))))))) ∧ (0 ≤ x2 → ((49 ≤ x2 → (∀ b_10 : Int, b_10 = (if levV x3 = 0 then x2 else x1) → (∀ b_11 : Int, b_11 = (if x3 = 0 then 1 else (if x3 ≠ 1 then 0 else 1)) → (∀ M1_11 : Mm, M1_11 = setA M 305 i0 (putN 340 (M.1 305 i0) (M.1 2 i0 13) x3) → (∀ b_12 : Int, b_12 = (if levV x3 = 0 then x1 else x2) → (∀ M1_12 : Mm, M1_12 = setA M1_11 306 i0 (putN 340 (M1_11.1 306 i0) (M1_11.1 2 i0 13) b_12) → ((b_11 = 0 → ((-2147483648 ≤ b_10 - x4 ∧ b_10 - x4 ≤ 2147483647))) ∧ (∀ b_13 : Int, b_13 = (if b_11 = 0 then (b_10 - x4) else b_10) → (∀ M1_13 : Mm, M1_13 = setA M1_12 307 i0 (putN 340 (M1_12.1 307 i0) (M1_12.1 2 i0 13) b_13) → ((b_11 ≠ 0 → ((-2147483648 ≤ b_10 + x4 ∧ b_10 + x4 ≤ 2147483647))) ∧ (∀ b_14 : Int, b_14 = (if b_11 = 0 then b_10 else (b_10 + x4)) → (∀ M1_14 : Mm, M1_14 = setA M1_13 308 i0 (putN 340 (M1_13.1 308 i0) (M1_13.1 2 i0 13) b_14) → (((-2147483648 ≤ (M1_14.1 2 i0 13) + 1 ∧ (M1_14.1 2 i0 13) + 1 ≤ 2147483647)) ∧ (∀ M1_15 : Mm, M1_15 = setI M1_14 2 i0 13 ((M1_14.1 2 i0 13) + 1) → (Q M1_15))))))))))))))) ∧ (x2 < 49 → (((0 ≤ x2 ∧ x2 < 49)) ∧ (∀ M1_5 : Mm, M1_5 = setJ M 310 i0 x2.toNat ((M.2 310 i0 x2.toNat) &&& ((lsh (Int64.ofNat 1) x1) ^^^ (Int64.ofInt (-1)))) → (∀ b_5 : Int, b_5 = (if levV x3 = 0 then x2 else x1) → (∀ b_6 : Int, b_6 = (if x3 = 0 then 1 else (if x3 ≠ 1 then 0 else 1)) → (∀ M1_6 : Mm, M1_6 = setA M1_5 305 i0 (putN 340 (M1_5.1 305 i0) (M1_5.1 2 i0 13) x3) → (∀ b_7 : Int, b_7 = (if levV x3 = 0 then x1 else x2) → (∀ M1_7 : Mm, M1_7 = setA M1_6 306 i0 (putN 340 (M1_6.1 306 i0) (M1_6.1 2 i0 13) b_7) → ((b_6 = 0 → ((-2147483648 ≤ b_5 - x4 ∧ b_5 - x4 ≤ 2147483647))) ∧ (∀ b_8 : Int, b_8 = (if b_6 = 0 then (b_5 - x4) else b_5) → (∀ M1_8 : Mm, M1_8 = setA M1_7 307 i0 (putN 340 (M1_7.1 307 i0) (M1_7.1 2 i0 13) b_8) → ((b_6 ≠ 0 → ((-2147483648 ≤ b_5 + x4 ∧ b_5 + x4 ≤ 2147483647))) ∧ (∀ b_9 : Int, b_9 = (if b_6 = 0 then b_5 else (b_5 + x4)) → (∀ M1_9 : Mm, M1_9 = setA M1_8 308 i0 (putN 340 (M1_8.1 308 i0) (M1_8.1 2 i0 13) b_9) → (((-2147483648 ≤ (M1_9.1 2 i0 13) + 1 ∧ (M1_9.1 2 i0 13) + 1 ≤ 2147483647)) ∧ (∀ M1_10 : Mm, M1_10 = setI M1_9 2 i0 13 ((M1_9.1 2 i0 13) + 1) → (Q M1_10))))))))))))))))))))) : E_204 i0 x1 x2 x3 x4 M Q := by
  show Wp 1 204 0 [some (.inr (.inr (2, i0))), some (.inl x1), some (.inl x2), some (.inl x3), some (.inl x4), none, none] [] M (rV Q)
  refine Wp.path (k := 1) [] (C := []) (pc' := 1) (ls' := [some (.inr (.inr (2, i0))), some (.inl x1), some (.inl x2), some (.inl x3), some (.inl x4), none, none]) (st' := [.inl x2]) (M' := M) rfl trivial ?_
  rcases Int.lt_or_le (x2) (0) with c_1 | c_1
  · replace h := h.1 c_1
    refine Wp.path (k := 1) [1] (C := [x2 < 0]) (pc' := 29) (ls' := [some (.inr (.inr (2, i0))), some (.inl x1), some (.inl x2), some (.inl x3), some (.inl x4), none, none]) (st' := []) (M' := M) rfl c_1 ?_
    refine Wp.path (k := 1) [] (C := []) (pc' := 30) (ls' := [some (.inr (.inr (2, i0))), some (.inl x1), some (.inl x2), some (.inl x3), some (.inl x4), none, none]) (st' := [.inl x3]) (M' := M) rfl trivial ?_
    refine Wp.call (e942) rfl rfl (by decide) ?_
    rintro v_ M_ ⟨eM_, ev_⟩
    rw [eM_, ev_]
    clear eM_ ev_ v_ M_
    show Wp 1 204 33 [some (.inr (.inr (2, i0))), some (.inl x1), some (.inl x2), some (.inl x3), some (.inl x4), none, none] [.inl (levV x3)] M (rV Q)
    have k_11 : ∀ b : Int, b = (if levV x3 = 0 then x2 else x1) → Wp 1 204 41 [some (.inr (.inr (2, i0))), some (.inl x1), some (.inl x2), some (.inl x3), some (.inl x4), none, none] [.inl b] M (rV Q) := by
      intro b e_b
      replace h := h b e_b
      refine Wp.path (k := 2) [] (C := []) (pc' := 44) (ls' := [some (.inr (.inr (2, i0))), some (.inl x1), some (.inl x2), some (.inl x3), some (.inl x4), some (.inl b), none]) (st' := [.inl x3]) (M' := M) rfl trivial ?_
      have k_8 : ∀ b_1 : Int, b_1 = (if x3 = 0 then 1 else (if x3 ≠ 1 then 0 else 1)) → Wp 1 204 57 [some (.inr (.inr (2, i0))), some (.inl x1), some (.inl x2), some (.inl x3), some (.inl x4), some (.inl b), none] [.inl b_1] M (rV Q) := by
        intro b_1 e_b_1
        replace h := h b_1 e_b_1
        refine Wp.path (k := 6) [] (C := []) (pc' := 68) (ls' := [some (.inr (.inr (2, i0))), some (.inl x1), some (.inl x2), some (.inl x3), some (.inl x4), some (.inl b), some (.inl b_1)]) (st' := [.inl x3, .inl (M.1 2 i0 13), .inr (.inr (305, i0))]) (M' := M) rfl trivial ?_
        refine Wp.call (put_305) rfl rfl (by decide) ?_
        rintro v_ M_ ⟨eM_, ev_⟩
        rw [eM_, ev_]
        clear eM_ ev_ v_ M_
        refine Bd (e := setA M 305 i0 (putN 340 (M.1 305 i0) (M.1 2 i0 13) x3)) (P := fun M1 : Mm => Wp 1 204 71 [some (.inr (.inr (2, i0))), some (.inl x1), some (.inl x2), some (.inl x3), some (.inl x4), some (.inl b), some (.inl b_1)] [] M1 (rV Q)) ?_
        intro M1 e_M1
        replace h := h M1 e_M1
        refine Wp.path (k := 5) [] (C := []) (pc' := 80) (ls' := [some (.inr (.inr (2, i0))), some (.inl x1), some (.inl x2), some (.inl x3), some (.inl x4), some (.inl b), some (.inl b_1)]) (st' := [.inl x3, .inl (M1.1 2 i0 13), .inr (.inr (306, i0))]) (M' := M1) rfl trivial ?_
        refine Wp.call (e942) rfl rfl (by decide) ?_
        rintro v_ M_ ⟨eM_, ev_⟩
        rw [eM_, ev_]
        clear eM_ ev_ v_ M_
        show Wp 1 204 83 [some (.inr (.inr (2, i0))), some (.inl x1), some (.inl x2), some (.inl x3), some (.inl x4), some (.inl b), some (.inl b_1)] [.inl (levV x3), .inl (M1.1 2 i0 13), .inr (.inr (306, i0))] M1 (rV Q)
        have k_6 : ∀ b_2 : Int, b_2 = (if levV x3 = 0 then x1 else x2) → Wp 1 204 91 [some (.inr (.inr (2, i0))), some (.inl x1), some (.inl x2), some (.inl x3), some (.inl x4), some (.inl b), some (.inl b_1)] [.inl b_2, .inl (M1.1 2 i0 13), .inr (.inr (306, i0))] M1 (rV Q) := by
          intro b_2 e_b_2
          replace h := h b_2 e_b_2
          refine Wp.call (put_306) rfl rfl (by decide) ?_
          rintro v_ M_ ⟨eM_, ev_⟩
          rw [eM_, ev_]
          clear eM_ ev_ v_ M_
          refine Bd (e := setA M1 306 i0 (putN 340 (M1.1 306 i0) (M1.1 2 i0 13) b_2)) (P := fun M1_1 : Mm => Wp 1 204 94 [some (.inr (.inr (2, i0))), some (.inl x1), some (.inl x2), some (.inl x3), some (.inl x4), some (.inl b), some (.inl b_1)] [] M1_1 (rV Q)) ?_
          intro M1_1 e_M1_1
          replace h := h M1_1 e_M1_1
          refine Wp.path (k := 5) [] (C := []) (pc' := 104) (ls' := [some (.inr (.inr (2, i0))), some (.inl x1), some (.inl x2), some (.inl x3), some (.inl x4), some (.inl b), some (.inl b_1)]) (st' := [.inl b_1, .inl (M1_1.1 2 i0 13), .inr (.inr (307, i0))]) (M' := M1_1) rfl trivial ?_
          have g4_0 := h.1
          replace h := h.2
          have k_4 : ∀ b_3 : Int, b_3 = (if b_1 = 0 then (b - x4) else b) → Wp 1 204 117 [some (.inr (.inr (2, i0))), some (.inl x1), some (.inl x2), some (.inl x3), some (.inl x4), some (.inl b), some (.inl b_1)] [.inl b_3, .inl (M1_1.1 2 i0 13), .inr (.inr (307, i0))] M1_1 (rV Q) := by
            intro b_3 e_b_3
            replace h := h b_3 e_b_3
            refine Wp.call (put_307) rfl rfl (by decide) ?_
            rintro v_ M_ ⟨eM_, ev_⟩
            rw [eM_, ev_]
            clear eM_ ev_ v_ M_
            refine Bd (e := setA M1_1 307 i0 (putN 340 (M1_1.1 307 i0) (M1_1.1 2 i0 13) b_3)) (P := fun M1_2 : Mm => Wp 1 204 120 [some (.inr (.inr (2, i0))), some (.inl x1), some (.inl x2), some (.inl x3), some (.inl x4), some (.inl b), some (.inl b_1)] [] M1_2 (rV Q)) ?_
            intro M1_2 e_M1_2
            replace h := h M1_2 e_M1_2
            refine Wp.path (k := 5) [] (C := []) (pc' := 130) (ls' := [some (.inr (.inr (2, i0))), some (.inl x1), some (.inl x2), some (.inl x3), some (.inl x4), some (.inl b), some (.inl b_1)]) (st' := [.inl b_1, .inl (M1_2.1 2 i0 13), .inr (.inr (308, i0))]) (M' := M1_2) rfl trivial ?_
            have g2_0 := h.1
            replace h := h.2
            have k_2 : ∀ b_4 : Int, b_4 = (if b_1 = 0 then b else (b + x4)) → Wp 1 204 143 [some (.inr (.inr (2, i0))), some (.inl x1), some (.inl x2), some (.inl x3), some (.inl x4), some (.inl b), some (.inl b_1)] [.inl b_4, .inl (M1_2.1 2 i0 13), .inr (.inr (308, i0))] M1_2 (rV Q) := by
              intro b_4 e_b_4
              replace h := h b_4 e_b_4
              refine Wp.call (put_308) rfl rfl (by decide) ?_
              rintro v_ M_ ⟨eM_, ev_⟩
              rw [eM_, ev_]
              clear eM_ ev_ v_ M_
              refine Bd (e := setA M1_2 308 i0 (putN 340 (M1_2.1 308 i0) (M1_2.1 2 i0 13) b_4)) (P := fun M1_3 : Mm => Wp 1 204 146 [some (.inr (.inr (2, i0))), some (.inl x1), some (.inl x2), some (.inl x3), some (.inl x4), some (.inl b), some (.inl b_1)] [] M1_3 (rV Q)) ?_
              intro M1_3 e_M1_3
              replace h := h M1_3 e_M1_3
              refine Wp.path (k := 6) [] (C := [inR ((M1_3.1 2 i0 13) + 1)]) (pc' := 156) (ls' := [some (.inr (.inr (2, i0))), some (.inl x1), some (.inl x2), some (.inl x3), some (.inl x4), some (.inl b), some (.inl b_1)]) (st' := []) (M' := setI M1_3 2 i0 13 ((M1_3.1 2 i0 13) + 1)) rfl h.1 ?_
              replace h := h.2
              refine Bd (P := fun M1_4 : Mm => Wp 1 204 156 [some (.inr (.inr (2, i0))), some (.inl x1), some (.inl x2), some (.inl x3), some (.inl x4), some (.inl b), some (.inl b_1)] [] M1_4 (rV Q)) ?_
              intro M1_4 e_M1_4
              replace h := h M1_4 e_M1_4
              exact Wp.ret rfl ⟨rfl, h⟩
            clear h
            rcases Decidable.em (b_1 = 0) with c_3 | c_3
            · refine Wp.path (k := 1) [1] (C := [b_1 = 0]) (pc' := 141) (ls' := [some (.inr (.inr (2, i0))), some (.inl x1), some (.inl x2), some (.inl x3), some (.inl x4), some (.inl b), some (.inl b_1)]) (st' := [.inl (M1_2.1 2 i0 13), .inr (.inr (308, i0))]) (M' := M1_2) rfl c_3 ?_
              refine Wp.path (k := 1) [] (C := []) (pc' := 143) (ls' := [some (.inr (.inr (2, i0))), some (.inl x1), some (.inl x2), some (.inl x3), some (.inl x4), some (.inl b), some (.inl b_1)]) (st' := [.inl b, .inl (M1_2.1 2 i0 13), .inr (.inr (308, i0))]) (M' := M1_2) rfl trivial ?_
              exact k_2 _ (by rw [if_pos c_3])
            · refine Wp.path (k := 1) [0] (C := [b_1 ≠ 0]) (pc' := 133) (ls' := [some (.inr (.inr (2, i0))), some (.inl x1), some (.inl x2), some (.inl x3), some (.inl x4), some (.inl b), some (.inl b_1)]) (st' := [.inl (M1_2.1 2 i0 13), .inr (.inr (308, i0))]) (M' := M1_2) rfl c_3 ?_
              refine Wp.path (k := 4) [] (C := [inR (b + x4)]) (pc' := 143) (ls' := [some (.inr (.inr (2, i0))), some (.inl x1), some (.inl x2), some (.inl x3), some (.inl x4), some (.inl b), some (.inl b_1)]) (st' := [.inl (b + x4), .inl (M1_2.1 2 i0 13), .inr (.inr (308, i0))]) (M' := M1_2) rfl (g2_0 c_3) ?_
              exact k_2 _ (by rw [if_neg c_3])
          clear h
          rcases Decidable.em (b_1 = 0) with c_5 | c_5
          · refine Wp.path (k := 1) [1] (C := [b_1 = 0]) (pc' := 112) (ls' := [some (.inr (.inr (2, i0))), some (.inl x1), some (.inl x2), some (.inl x3), some (.inl x4), some (.inl b), some (.inl b_1)]) (st' := [.inl (M1_1.1 2 i0 13), .inr (.inr (307, i0))]) (M' := M1_1) rfl c_5 ?_
            refine Wp.path (k := 3) [] (C := [inR (b - x4)]) (pc' := 117) (ls' := [some (.inr (.inr (2, i0))), some (.inl x1), some (.inl x2), some (.inl x3), some (.inl x4), some (.inl b), some (.inl b_1)]) (st' := [.inl (b - x4), .inl (M1_1.1 2 i0 13), .inr (.inr (307, i0))]) (M' := M1_1) rfl (g4_0 c_5) ?_
            exact k_4 _ (by rw [if_pos c_5])
          · refine Wp.path (k := 1) [0] (C := [b_1 ≠ 0]) (pc' := 107) (ls' := [some (.inr (.inr (2, i0))), some (.inl x1), some (.inl x2), some (.inl x3), some (.inl x4), some (.inl b), some (.inl b_1)]) (st' := [.inl (M1_1.1 2 i0 13), .inr (.inr (307, i0))]) (M' := M1_1) rfl c_5 ?_
            refine Wp.path (k := 2) [] (C := []) (pc' := 117) (ls' := [some (.inr (.inr (2, i0))), some (.inl x1), some (.inl x2), some (.inl x3), some (.inl x4), some (.inl b), some (.inl b_1)]) (st' := [.inl b, .inl (M1_1.1 2 i0 13), .inr (.inr (307, i0))]) (M' := M1_1) rfl trivial ?_
            exact k_4 _ (by rw [if_neg c_5])
        clear h
        rcases Decidable.em (levV x3 = 0) with c_7 | c_7
        · refine Wp.path (k := 1) [1] (C := [levV x3 = 0]) (pc' := 90) (ls' := [some (.inr (.inr (2, i0))), some (.inl x1), some (.inl x2), some (.inl x3), some (.inl x4), some (.inl b), some (.inl b_1)]) (st' := [.inl (M1.1 2 i0 13), .inr (.inr (306, i0))]) (M' := M1) rfl c_7 ?_
          refine Wp.path (k := 1) [] (C := []) (pc' := 91) (ls' := [some (.inr (.inr (2, i0))), some (.inl x1), some (.inl x2), some (.inl x3), some (.inl x4), some (.inl b), some (.inl b_1)]) (st' := [.inl x1, .inl (M1.1 2 i0 13), .inr (.inr (306, i0))]) (M' := M1) rfl trivial ?_
          exact k_6 _ (by rw [if_pos c_7])
        · refine Wp.path (k := 1) [0] (C := [levV x3 ≠ 0]) (pc' := 86) (ls' := [some (.inr (.inr (2, i0))), some (.inl x1), some (.inl x2), some (.inl x3), some (.inl x4), some (.inl b), some (.inl b_1)]) (st' := [.inl (M1.1 2 i0 13), .inr (.inr (306, i0))]) (M' := M1) rfl c_7 ?_
          refine Wp.path (k := 2) [] (C := []) (pc' := 91) (ls' := [some (.inr (.inr (2, i0))), some (.inl x1), some (.inl x2), some (.inl x3), some (.inl x4), some (.inl b), some (.inl b_1)]) (st' := [.inl x2, .inl (M1.1 2 i0 13), .inr (.inr (306, i0))]) (M' := M1) rfl trivial ?_
          exact k_6 _ (by rw [if_neg c_7])
      clear h
      rcases Decidable.em (x3 = 0) with c_9 | c_9
      · refine Wp.path (k := 1) [1] (C := [x3 = 0]) (pc' := 52) (ls' := [some (.inr (.inr (2, i0))), some (.inl x1), some (.inl x2), some (.inl x3), some (.inl x4), some (.inl b), none]) (st' := []) (M' := M) rfl c_9 ?_
        refine Wp.path (k := 2) [] (C := []) (pc' := 57) (ls' := [some (.inr (.inr (2, i0))), some (.inl x1), some (.inl x2), some (.inl x3), some (.inl x4), some (.inl b), none]) (st' := [.inl 1]) (M' := M) rfl trivial ?_
        exact k_8 _ (by rw [if_pos c_9])
      · refine Wp.path (k := 1) [0] (C := [x3 ≠ 0]) (pc' := 47) (ls' := [some (.inr (.inr (2, i0))), some (.inl x1), some (.inl x2), some (.inl x3), some (.inl x4), some (.inl b), none]) (st' := []) (M' := M) rfl c_9 ?_
        refine Wp.path (k := 2) [] (C := []) (pc' := 49) (ls' := [some (.inr (.inr (2, i0))), some (.inl x1), some (.inl x2), some (.inl x3), some (.inl x4), some (.inl b), none]) (st' := [.inl 1, .inl x3]) (M' := M) rfl trivial ?_
        rcases Decidable.em (x3 = 1) with c_10 | c_10
        · refine Wp.path (k := 1) [0] (C := [x3 = 1]) (pc' := 52) (ls' := [some (.inr (.inr (2, i0))), some (.inl x1), some (.inl x2), some (.inl x3), some (.inl x4), some (.inl b), none]) (st' := []) (M' := M) rfl c_10 ?_
          refine Wp.path (k := 2) [] (C := []) (pc' := 57) (ls' := [some (.inr (.inr (2, i0))), some (.inl x1), some (.inl x2), some (.inl x3), some (.inl x4), some (.inl b), none]) (st' := [.inl 1]) (M' := M) rfl trivial ?_
          exact k_8 _ (by rw [if_neg c_9, if_neg (not_not_intro c_10)])
        · refine Wp.path (k := 1) [1] (C := [x3 ≠ 1]) (pc' := 56) (ls' := [some (.inr (.inr (2, i0))), some (.inl x1), some (.inl x2), some (.inl x3), some (.inl x4), some (.inl b), none]) (st' := []) (M' := M) rfl c_10 ?_
          refine Wp.path (k := 1) [] (C := []) (pc' := 57) (ls' := [some (.inr (.inr (2, i0))), some (.inl x1), some (.inl x2), some (.inl x3), some (.inl x4), some (.inl b), none]) (st' := [.inl 0]) (M' := M) rfl trivial ?_
          exact k_8 _ (by rw [if_neg c_9, if_pos c_10])
    clear h
    rcases Decidable.em (levV x3 = 0) with c_12 | c_12
    · refine Wp.path (k := 1) [1] (C := [levV x3 = 0]) (pc' := 40) (ls' := [some (.inr (.inr (2, i0))), some (.inl x1), some (.inl x2), some (.inl x3), some (.inl x4), none, none]) (st' := []) (M' := M) rfl c_12 ?_
      refine Wp.path (k := 1) [] (C := []) (pc' := 41) (ls' := [some (.inr (.inr (2, i0))), some (.inl x1), some (.inl x2), some (.inl x3), some (.inl x4), none, none]) (st' := [.inl x2]) (M' := M) rfl trivial ?_
      exact k_11 _ (by rw [if_pos c_12])
    · refine Wp.path (k := 1) [0] (C := [levV x3 ≠ 0]) (pc' := 36) (ls' := [some (.inr (.inr (2, i0))), some (.inl x1), some (.inl x2), some (.inl x3), some (.inl x4), none, none]) (st' := []) (M' := M) rfl c_12 ?_
      refine Wp.path (k := 2) [] (C := []) (pc' := 41) (ls' := [some (.inr (.inr (2, i0))), some (.inl x1), some (.inl x2), some (.inl x3), some (.inl x4), none, none]) (st' := [.inl x1]) (M' := M) rfl trivial ?_
      exact k_11 _ (by rw [if_neg c_12])
  · replace h := h.2 c_1
    refine Wp.path (k := 1) [0] (C := [0 ≤ x2]) (pc' := 4) (ls' := [some (.inr (.inr (2, i0))), some (.inl x1), some (.inl x2), some (.inl x3), some (.inl x4), none, none]) (st' := []) (M' := M) rfl c_1 ?_
    refine Wp.path (k := 4) [] (C := []) (pc' := 10) (ls' := [some (.inr (.inr (2, i0))), some (.inl x1), some (.inl x2), some (.inl x3), some (.inl x4), none, none]) (st' := [.inl 49, .inl x2]) (M' := M) rfl trivial ?_
    rcases Int.lt_or_le (x2) (49) with c_13 | c_13
    · replace h := h.2 c_13
      refine Wp.path (k := 1) [0] (C := [x2 < 49]) (pc' := 13) (ls' := [some (.inr (.inr (2, i0))), some (.inl x1), some (.inl x2), some (.inl x3), some (.inl x4), none, none]) (st' := []) (M' := M) rfl c_13 ?_
      refine Wp.path (k := 12) [] (C := [0 ≤ x2 ∧ x2 < 49, 0 ≤ x2 ∧ x2 < 49]) (pc' := 29) (ls' := [some (.inr (.inr (2, i0))), some (.inl x1), some (.inl x2), some (.inl x3), some (.inl x4), none, none]) (st' := []) (M' := setJ M 310 i0 x2.toNat ((M.2 310 i0 x2.toNat) &&& ((lsh (Int64.ofNat 1) x1) ^^^ (Int64.ofInt (-1))))) rfl ⟨h.1, h.1⟩ ?_
      replace h := h.2
      refine Bd (P := fun M1_5 : Mm => Wp 1 204 29 [some (.inr (.inr (2, i0))), some (.inl x1), some (.inl x2), some (.inl x3), some (.inl x4), none, none] [] M1_5 (rV Q)) ?_
      intro M1_5 e_M1_5
      replace h := h M1_5 e_M1_5
      refine Wp.path (k := 1) [] (C := []) (pc' := 30) (ls' := [some (.inr (.inr (2, i0))), some (.inl x1), some (.inl x2), some (.inl x3), some (.inl x4), none, none]) (st' := [.inl x3]) (M' := M1_5) rfl trivial ?_
      refine Wp.call (e942) rfl rfl (by decide) ?_
      rintro v_ M_ ⟨eM_, ev_⟩
      rw [eM_, ev_]
      clear eM_ ev_ v_ M_
      show Wp 1 204 33 [some (.inr (.inr (2, i0))), some (.inl x1), some (.inl x2), some (.inl x3), some (.inl x4), none, none] [.inl (levV x3)] M1_5 (rV Q)
      have k_23 : ∀ b_5 : Int, b_5 = (if levV x3 = 0 then x2 else x1) → Wp 1 204 41 [some (.inr (.inr (2, i0))), some (.inl x1), some (.inl x2), some (.inl x3), some (.inl x4), none, none] [.inl b_5] M1_5 (rV Q) := by
        intro b_5 e_b_5
        replace h := h b_5 e_b_5
        refine Wp.path (k := 2) [] (C := []) (pc' := 44) (ls' := [some (.inr (.inr (2, i0))), some (.inl x1), some (.inl x2), some (.inl x3), some (.inl x4), some (.inl b_5), none]) (st' := [.inl x3]) (M' := M1_5) rfl trivial ?_
        have k_20 : ∀ b_6 : Int, b_6 = (if x3 = 0 then 1 else (if x3 ≠ 1 then 0 else 1)) → Wp 1 204 57 [some (.inr (.inr (2, i0))), some (.inl x1), some (.inl x2), some (.inl x3), some (.inl x4), some (.inl b_5), none] [.inl b_6] M1_5 (rV Q) := by
          intro b_6 e_b_6
          replace h := h b_6 e_b_6
          refine Wp.path (k := 6) [] (C := []) (pc' := 68) (ls' := [some (.inr (.inr (2, i0))), some (.inl x1), some (.inl x2), some (.inl x3), some (.inl x4), some (.inl b_5), some (.inl b_6)]) (st' := [.inl x3, .inl (M1_5.1 2 i0 13), .inr (.inr (305, i0))]) (M' := M1_5) rfl trivial ?_
          refine Wp.call (put_305) rfl rfl (by decide) ?_
          rintro v_ M_ ⟨eM_, ev_⟩
          rw [eM_, ev_]
          clear eM_ ev_ v_ M_
          refine Bd (e := setA M1_5 305 i0 (putN 340 (M1_5.1 305 i0) (M1_5.1 2 i0 13) x3)) (P := fun M1_6 : Mm => Wp 1 204 71 [some (.inr (.inr (2, i0))), some (.inl x1), some (.inl x2), some (.inl x3), some (.inl x4), some (.inl b_5), some (.inl b_6)] [] M1_6 (rV Q)) ?_
          intro M1_6 e_M1_6
          replace h := h M1_6 e_M1_6
          refine Wp.path (k := 5) [] (C := []) (pc' := 80) (ls' := [some (.inr (.inr (2, i0))), some (.inl x1), some (.inl x2), some (.inl x3), some (.inl x4), some (.inl b_5), some (.inl b_6)]) (st' := [.inl x3, .inl (M1_6.1 2 i0 13), .inr (.inr (306, i0))]) (M' := M1_6) rfl trivial ?_
          refine Wp.call (e942) rfl rfl (by decide) ?_
          rintro v_ M_ ⟨eM_, ev_⟩
          rw [eM_, ev_]
          clear eM_ ev_ v_ M_
          show Wp 1 204 83 [some (.inr (.inr (2, i0))), some (.inl x1), some (.inl x2), some (.inl x3), some (.inl x4), some (.inl b_5), some (.inl b_6)] [.inl (levV x3), .inl (M1_6.1 2 i0 13), .inr (.inr (306, i0))] M1_6 (rV Q)
          have k_18 : ∀ b_7 : Int, b_7 = (if levV x3 = 0 then x1 else x2) → Wp 1 204 91 [some (.inr (.inr (2, i0))), some (.inl x1), some (.inl x2), some (.inl x3), some (.inl x4), some (.inl b_5), some (.inl b_6)] [.inl b_7, .inl (M1_6.1 2 i0 13), .inr (.inr (306, i0))] M1_6 (rV Q) := by
            intro b_7 e_b_7
            replace h := h b_7 e_b_7
            refine Wp.call (put_306) rfl rfl (by decide) ?_
            rintro v_ M_ ⟨eM_, ev_⟩
            rw [eM_, ev_]
            clear eM_ ev_ v_ M_
            refine Bd (e := setA M1_6 306 i0 (putN 340 (M1_6.1 306 i0) (M1_6.1 2 i0 13) b_7)) (P := fun M1_7 : Mm => Wp 1 204 94 [some (.inr (.inr (2, i0))), some (.inl x1), some (.inl x2), some (.inl x3), some (.inl x4), some (.inl b_5), some (.inl b_6)] [] M1_7 (rV Q)) ?_
            intro M1_7 e_M1_7
            replace h := h M1_7 e_M1_7
            refine Wp.path (k := 5) [] (C := []) (pc' := 104) (ls' := [some (.inr (.inr (2, i0))), some (.inl x1), some (.inl x2), some (.inl x3), some (.inl x4), some (.inl b_5), some (.inl b_6)]) (st' := [.inl b_6, .inl (M1_7.1 2 i0 13), .inr (.inr (307, i0))]) (M' := M1_7) rfl trivial ?_
            have g16_0 := h.1
            replace h := h.2
            have k_16 : ∀ b_8 : Int, b_8 = (if b_6 = 0 then (b_5 - x4) else b_5) → Wp 1 204 117 [some (.inr (.inr (2, i0))), some (.inl x1), some (.inl x2), some (.inl x3), some (.inl x4), some (.inl b_5), some (.inl b_6)] [.inl b_8, .inl (M1_7.1 2 i0 13), .inr (.inr (307, i0))] M1_7 (rV Q) := by
              intro b_8 e_b_8
              replace h := h b_8 e_b_8
              refine Wp.call (put_307) rfl rfl (by decide) ?_
              rintro v_ M_ ⟨eM_, ev_⟩
              rw [eM_, ev_]
              clear eM_ ev_ v_ M_
              refine Bd (e := setA M1_7 307 i0 (putN 340 (M1_7.1 307 i0) (M1_7.1 2 i0 13) b_8)) (P := fun M1_8 : Mm => Wp 1 204 120 [some (.inr (.inr (2, i0))), some (.inl x1), some (.inl x2), some (.inl x3), some (.inl x4), some (.inl b_5), some (.inl b_6)] [] M1_8 (rV Q)) ?_
              intro M1_8 e_M1_8
              replace h := h M1_8 e_M1_8
              refine Wp.path (k := 5) [] (C := []) (pc' := 130) (ls' := [some (.inr (.inr (2, i0))), some (.inl x1), some (.inl x2), some (.inl x3), some (.inl x4), some (.inl b_5), some (.inl b_6)]) (st' := [.inl b_6, .inl (M1_8.1 2 i0 13), .inr (.inr (308, i0))]) (M' := M1_8) rfl trivial ?_
              have g14_0 := h.1
              replace h := h.2
              have k_14 : ∀ b_9 : Int, b_9 = (if b_6 = 0 then b_5 else (b_5 + x4)) → Wp 1 204 143 [some (.inr (.inr (2, i0))), some (.inl x1), some (.inl x2), some (.inl x3), some (.inl x4), some (.inl b_5), some (.inl b_6)] [.inl b_9, .inl (M1_8.1 2 i0 13), .inr (.inr (308, i0))] M1_8 (rV Q) := by
                intro b_9 e_b_9
                replace h := h b_9 e_b_9
                refine Wp.call (put_308) rfl rfl (by decide) ?_
                rintro v_ M_ ⟨eM_, ev_⟩
                rw [eM_, ev_]
                clear eM_ ev_ v_ M_
                refine Bd (e := setA M1_8 308 i0 (putN 340 (M1_8.1 308 i0) (M1_8.1 2 i0 13) b_9)) (P := fun M1_9 : Mm => Wp 1 204 146 [some (.inr (.inr (2, i0))), some (.inl x1), some (.inl x2), some (.inl x3), some (.inl x4), some (.inl b_5), some (.inl b_6)] [] M1_9 (rV Q)) ?_
                intro M1_9 e_M1_9
                replace h := h M1_9 e_M1_9
                refine Wp.path (k := 6) [] (C := [inR ((M1_9.1 2 i0 13) + 1)]) (pc' := 156) (ls' := [some (.inr (.inr (2, i0))), some (.inl x1), some (.inl x2), some (.inl x3), some (.inl x4), some (.inl b_5), some (.inl b_6)]) (st' := []) (M' := setI M1_9 2 i0 13 ((M1_9.1 2 i0 13) + 1)) rfl h.1 ?_
                replace h := h.2
                refine Bd (P := fun M1_10 : Mm => Wp 1 204 156 [some (.inr (.inr (2, i0))), some (.inl x1), some (.inl x2), some (.inl x3), some (.inl x4), some (.inl b_5), some (.inl b_6)] [] M1_10 (rV Q)) ?_
                intro M1_10 e_M1_10
                replace h := h M1_10 e_M1_10
                exact Wp.ret rfl ⟨rfl, h⟩
              clear h
              rcases Decidable.em (b_6 = 0) with c_15 | c_15
              · refine Wp.path (k := 1) [1] (C := [b_6 = 0]) (pc' := 141) (ls' := [some (.inr (.inr (2, i0))), some (.inl x1), some (.inl x2), some (.inl x3), some (.inl x4), some (.inl b_5), some (.inl b_6)]) (st' := [.inl (M1_8.1 2 i0 13), .inr (.inr (308, i0))]) (M' := M1_8) rfl c_15 ?_
                refine Wp.path (k := 1) [] (C := []) (pc' := 143) (ls' := [some (.inr (.inr (2, i0))), some (.inl x1), some (.inl x2), some (.inl x3), some (.inl x4), some (.inl b_5), some (.inl b_6)]) (st' := [.inl b_5, .inl (M1_8.1 2 i0 13), .inr (.inr (308, i0))]) (M' := M1_8) rfl trivial ?_
                exact k_14 _ (by rw [if_pos c_15])
              · refine Wp.path (k := 1) [0] (C := [b_6 ≠ 0]) (pc' := 133) (ls' := [some (.inr (.inr (2, i0))), some (.inl x1), some (.inl x2), some (.inl x3), some (.inl x4), some (.inl b_5), some (.inl b_6)]) (st' := [.inl (M1_8.1 2 i0 13), .inr (.inr (308, i0))]) (M' := M1_8) rfl c_15 ?_
                refine Wp.path (k := 4) [] (C := [inR (b_5 + x4)]) (pc' := 143) (ls' := [some (.inr (.inr (2, i0))), some (.inl x1), some (.inl x2), some (.inl x3), some (.inl x4), some (.inl b_5), some (.inl b_6)]) (st' := [.inl (b_5 + x4), .inl (M1_8.1 2 i0 13), .inr (.inr (308, i0))]) (M' := M1_8) rfl (g14_0 c_15) ?_
                exact k_14 _ (by rw [if_neg c_15])
            clear h
            rcases Decidable.em (b_6 = 0) with c_17 | c_17
            · refine Wp.path (k := 1) [1] (C := [b_6 = 0]) (pc' := 112) (ls' := [some (.inr (.inr (2, i0))), some (.inl x1), some (.inl x2), some (.inl x3), some (.inl x4), some (.inl b_5), some (.inl b_6)]) (st' := [.inl (M1_7.1 2 i0 13), .inr (.inr (307, i0))]) (M' := M1_7) rfl c_17 ?_
              refine Wp.path (k := 3) [] (C := [inR (b_5 - x4)]) (pc' := 117) (ls' := [some (.inr (.inr (2, i0))), some (.inl x1), some (.inl x2), some (.inl x3), some (.inl x4), some (.inl b_5), some (.inl b_6)]) (st' := [.inl (b_5 - x4), .inl (M1_7.1 2 i0 13), .inr (.inr (307, i0))]) (M' := M1_7) rfl (g16_0 c_17) ?_
              exact k_16 _ (by rw [if_pos c_17])
            · refine Wp.path (k := 1) [0] (C := [b_6 ≠ 0]) (pc' := 107) (ls' := [some (.inr (.inr (2, i0))), some (.inl x1), some (.inl x2), some (.inl x3), some (.inl x4), some (.inl b_5), some (.inl b_6)]) (st' := [.inl (M1_7.1 2 i0 13), .inr (.inr (307, i0))]) (M' := M1_7) rfl c_17 ?_
              refine Wp.path (k := 2) [] (C := []) (pc' := 117) (ls' := [some (.inr (.inr (2, i0))), some (.inl x1), some (.inl x2), some (.inl x3), some (.inl x4), some (.inl b_5), some (.inl b_6)]) (st' := [.inl b_5, .inl (M1_7.1 2 i0 13), .inr (.inr (307, i0))]) (M' := M1_7) rfl trivial ?_
              exact k_16 _ (by rw [if_neg c_17])
          clear h
          rcases Decidable.em (levV x3 = 0) with c_19 | c_19
          · refine Wp.path (k := 1) [1] (C := [levV x3 = 0]) (pc' := 90) (ls' := [some (.inr (.inr (2, i0))), some (.inl x1), some (.inl x2), some (.inl x3), some (.inl x4), some (.inl b_5), some (.inl b_6)]) (st' := [.inl (M1_6.1 2 i0 13), .inr (.inr (306, i0))]) (M' := M1_6) rfl c_19 ?_
            refine Wp.path (k := 1) [] (C := []) (pc' := 91) (ls' := [some (.inr (.inr (2, i0))), some (.inl x1), some (.inl x2), some (.inl x3), some (.inl x4), some (.inl b_5), some (.inl b_6)]) (st' := [.inl x1, .inl (M1_6.1 2 i0 13), .inr (.inr (306, i0))]) (M' := M1_6) rfl trivial ?_
            exact k_18 _ (by rw [if_pos c_19])
          · refine Wp.path (k := 1) [0] (C := [levV x3 ≠ 0]) (pc' := 86) (ls' := [some (.inr (.inr (2, i0))), some (.inl x1), some (.inl x2), some (.inl x3), some (.inl x4), some (.inl b_5), some (.inl b_6)]) (st' := [.inl (M1_6.1 2 i0 13), .inr (.inr (306, i0))]) (M' := M1_6) rfl c_19 ?_
            refine Wp.path (k := 2) [] (C := []) (pc' := 91) (ls' := [some (.inr (.inr (2, i0))), some (.inl x1), some (.inl x2), some (.inl x3), some (.inl x4), some (.inl b_5), some (.inl b_6)]) (st' := [.inl x2, .inl (M1_6.1 2 i0 13), .inr (.inr (306, i0))]) (M' := M1_6) rfl trivial ?_
            exact k_18 _ (by rw [if_neg c_19])
        clear h
        rcases Decidable.em (x3 = 0) with c_21 | c_21
        · refine Wp.path (k := 1) [1] (C := [x3 = 0]) (pc' := 52) (ls' := [some (.inr (.inr (2, i0))), some (.inl x1), some (.inl x2), some (.inl x3), some (.inl x4), some (.inl b_5), none]) (st' := []) (M' := M1_5) rfl c_21 ?_
          refine Wp.path (k := 2) [] (C := []) (pc' := 57) (ls' := [some (.inr (.inr (2, i0))), some (.inl x1), some (.inl x2), some (.inl x3), some (.inl x4), some (.inl b_5), none]) (st' := [.inl 1]) (M' := M1_5) rfl trivial ?_
          exact k_20 _ (by rw [if_pos c_21])
        · refine Wp.path (k := 1) [0] (C := [x3 ≠ 0]) (pc' := 47) (ls' := [some (.inr (.inr (2, i0))), some (.inl x1), some (.inl x2), some (.inl x3), some (.inl x4), some (.inl b_5), none]) (st' := []) (M' := M1_5) rfl c_21 ?_
          refine Wp.path (k := 2) [] (C := []) (pc' := 49) (ls' := [some (.inr (.inr (2, i0))), some (.inl x1), some (.inl x2), some (.inl x3), some (.inl x4), some (.inl b_5), none]) (st' := [.inl 1, .inl x3]) (M' := M1_5) rfl trivial ?_
          rcases Decidable.em (x3 = 1) with c_22 | c_22
          · refine Wp.path (k := 1) [0] (C := [x3 = 1]) (pc' := 52) (ls' := [some (.inr (.inr (2, i0))), some (.inl x1), some (.inl x2), some (.inl x3), some (.inl x4), some (.inl b_5), none]) (st' := []) (M' := M1_5) rfl c_22 ?_
            refine Wp.path (k := 2) [] (C := []) (pc' := 57) (ls' := [some (.inr (.inr (2, i0))), some (.inl x1), some (.inl x2), some (.inl x3), some (.inl x4), some (.inl b_5), none]) (st' := [.inl 1]) (M' := M1_5) rfl trivial ?_
            exact k_20 _ (by rw [if_neg c_21, if_neg (not_not_intro c_22)])
          · refine Wp.path (k := 1) [1] (C := [x3 ≠ 1]) (pc' := 56) (ls' := [some (.inr (.inr (2, i0))), some (.inl x1), some (.inl x2), some (.inl x3), some (.inl x4), some (.inl b_5), none]) (st' := []) (M' := M1_5) rfl c_22 ?_
            refine Wp.path (k := 1) [] (C := []) (pc' := 57) (ls' := [some (.inr (.inr (2, i0))), some (.inl x1), some (.inl x2), some (.inl x3), some (.inl x4), some (.inl b_5), none]) (st' := [.inl 0]) (M' := M1_5) rfl trivial ?_
            exact k_20 _ (by rw [if_neg c_21, if_pos c_22])
      clear h
      rcases Decidable.em (levV x3 = 0) with c_24 | c_24
      · refine Wp.path (k := 1) [1] (C := [levV x3 = 0]) (pc' := 40) (ls' := [some (.inr (.inr (2, i0))), some (.inl x1), some (.inl x2), some (.inl x3), some (.inl x4), none, none]) (st' := []) (M' := M1_5) rfl c_24 ?_
        refine Wp.path (k := 1) [] (C := []) (pc' := 41) (ls' := [some (.inr (.inr (2, i0))), some (.inl x1), some (.inl x2), some (.inl x3), some (.inl x4), none, none]) (st' := [.inl x2]) (M' := M1_5) rfl trivial ?_
        exact k_23 _ (by rw [if_pos c_24])
      · refine Wp.path (k := 1) [0] (C := [levV x3 ≠ 0]) (pc' := 36) (ls' := [some (.inr (.inr (2, i0))), some (.inl x1), some (.inl x2), some (.inl x3), some (.inl x4), none, none]) (st' := []) (M' := M1_5) rfl c_24 ?_
        refine Wp.path (k := 2) [] (C := []) (pc' := 41) (ls' := [some (.inr (.inr (2, i0))), some (.inl x1), some (.inl x2), some (.inl x3), some (.inl x4), none, none]) (st' := [.inl x1]) (M' := M1_5) rfl trivial ?_
        exact k_23 _ (by rw [if_neg c_24])
    · replace h := h.1 c_13
      refine Wp.path (k := 1) [1] (C := [49 ≤ x2]) (pc' := 29) (ls' := [some (.inr (.inr (2, i0))), some (.inl x1), some (.inl x2), some (.inl x3), some (.inl x4), none, none]) (st' := []) (M' := M) rfl c_13 ?_
      refine Wp.path (k := 1) [] (C := []) (pc' := 30) (ls' := [some (.inr (.inr (2, i0))), some (.inl x1), some (.inl x2), some (.inl x3), some (.inl x4), none, none]) (st' := [.inl x3]) (M' := M) rfl trivial ?_
      refine Wp.call (e942) rfl rfl (by decide) ?_
      rintro v_ M_ ⟨eM_, ev_⟩
      rw [eM_, ev_]
      clear eM_ ev_ v_ M_
      show Wp 1 204 33 [some (.inr (.inr (2, i0))), some (.inl x1), some (.inl x2), some (.inl x3), some (.inl x4), none, none] [.inl (levV x3)] M (rV Q)
      have k_34 : ∀ b_10 : Int, b_10 = (if levV x3 = 0 then x2 else x1) → Wp 1 204 41 [some (.inr (.inr (2, i0))), some (.inl x1), some (.inl x2), some (.inl x3), some (.inl x4), none, none] [.inl b_10] M (rV Q) := by
        intro b_10 e_b_10
        replace h := h b_10 e_b_10
        refine Wp.path (k := 2) [] (C := []) (pc' := 44) (ls' := [some (.inr (.inr (2, i0))), some (.inl x1), some (.inl x2), some (.inl x3), some (.inl x4), some (.inl b_10), none]) (st' := [.inl x3]) (M' := M) rfl trivial ?_
        have k_31 : ∀ b_11 : Int, b_11 = (if x3 = 0 then 1 else (if x3 ≠ 1 then 0 else 1)) → Wp 1 204 57 [some (.inr (.inr (2, i0))), some (.inl x1), some (.inl x2), some (.inl x3), some (.inl x4), some (.inl b_10), none] [.inl b_11] M (rV Q) := by
          intro b_11 e_b_11
          replace h := h b_11 e_b_11
          refine Wp.path (k := 6) [] (C := []) (pc' := 68) (ls' := [some (.inr (.inr (2, i0))), some (.inl x1), some (.inl x2), some (.inl x3), some (.inl x4), some (.inl b_10), some (.inl b_11)]) (st' := [.inl x3, .inl (M.1 2 i0 13), .inr (.inr (305, i0))]) (M' := M) rfl trivial ?_
          refine Wp.call (put_305) rfl rfl (by decide) ?_
          rintro v_ M_ ⟨eM_, ev_⟩
          rw [eM_, ev_]
          clear eM_ ev_ v_ M_
          refine Bd (e := setA M 305 i0 (putN 340 (M.1 305 i0) (M.1 2 i0 13) x3)) (P := fun M1_11 : Mm => Wp 1 204 71 [some (.inr (.inr (2, i0))), some (.inl x1), some (.inl x2), some (.inl x3), some (.inl x4), some (.inl b_10), some (.inl b_11)] [] M1_11 (rV Q)) ?_
          intro M1_11 e_M1_11
          replace h := h M1_11 e_M1_11
          refine Wp.path (k := 5) [] (C := []) (pc' := 80) (ls' := [some (.inr (.inr (2, i0))), some (.inl x1), some (.inl x2), some (.inl x3), some (.inl x4), some (.inl b_10), some (.inl b_11)]) (st' := [.inl x3, .inl (M1_11.1 2 i0 13), .inr (.inr (306, i0))]) (M' := M1_11) rfl trivial ?_
          refine Wp.call (e942) rfl rfl (by decide) ?_
          rintro v_ M_ ⟨eM_, ev_⟩
          rw [eM_, ev_]
          clear eM_ ev_ v_ M_
          show Wp 1 204 83 [some (.inr (.inr (2, i0))), some (.inl x1), some (.inl x2), some (.inl x3), some (.inl x4), some (.inl b_10), some (.inl b_11)] [.inl (levV x3), .inl (M1_11.1 2 i0 13), .inr (.inr (306, i0))] M1_11 (rV Q)
          have k_29 : ∀ b_12 : Int, b_12 = (if levV x3 = 0 then x1 else x2) → Wp 1 204 91 [some (.inr (.inr (2, i0))), some (.inl x1), some (.inl x2), some (.inl x3), some (.inl x4), some (.inl b_10), some (.inl b_11)] [.inl b_12, .inl (M1_11.1 2 i0 13), .inr (.inr (306, i0))] M1_11 (rV Q) := by
            intro b_12 e_b_12
            replace h := h b_12 e_b_12
            refine Wp.call (put_306) rfl rfl (by decide) ?_
            rintro v_ M_ ⟨eM_, ev_⟩
            rw [eM_, ev_]
            clear eM_ ev_ v_ M_
            refine Bd (e := setA M1_11 306 i0 (putN 340 (M1_11.1 306 i0) (M1_11.1 2 i0 13) b_12)) (P := fun M1_12 : Mm => Wp 1 204 94 [some (.inr (.inr (2, i0))), some (.inl x1), some (.inl x2), some (.inl x3), some (.inl x4), some (.inl b_10), some (.inl b_11)] [] M1_12 (rV Q)) ?_
            intro M1_12 e_M1_12
            replace h := h M1_12 e_M1_12
            refine Wp.path (k := 5) [] (C := []) (pc' := 104) (ls' := [some (.inr (.inr (2, i0))), some (.inl x1), some (.inl x2), some (.inl x3), some (.inl x4), some (.inl b_10), some (.inl b_11)]) (st' := [.inl b_11, .inl (M1_12.1 2 i0 13), .inr (.inr (307, i0))]) (M' := M1_12) rfl trivial ?_
            have g27_0 := h.1
            replace h := h.2
            have k_27 : ∀ b_13 : Int, b_13 = (if b_11 = 0 then (b_10 - x4) else b_10) → Wp 1 204 117 [some (.inr (.inr (2, i0))), some (.inl x1), some (.inl x2), some (.inl x3), some (.inl x4), some (.inl b_10), some (.inl b_11)] [.inl b_13, .inl (M1_12.1 2 i0 13), .inr (.inr (307, i0))] M1_12 (rV Q) := by
              intro b_13 e_b_13
              replace h := h b_13 e_b_13
              refine Wp.call (put_307) rfl rfl (by decide) ?_
              rintro v_ M_ ⟨eM_, ev_⟩
              rw [eM_, ev_]
              clear eM_ ev_ v_ M_
              refine Bd (e := setA M1_12 307 i0 (putN 340 (M1_12.1 307 i0) (M1_12.1 2 i0 13) b_13)) (P := fun M1_13 : Mm => Wp 1 204 120 [some (.inr (.inr (2, i0))), some (.inl x1), some (.inl x2), some (.inl x3), some (.inl x4), some (.inl b_10), some (.inl b_11)] [] M1_13 (rV Q)) ?_
              intro M1_13 e_M1_13
              replace h := h M1_13 e_M1_13
              refine Wp.path (k := 5) [] (C := []) (pc' := 130) (ls' := [some (.inr (.inr (2, i0))), some (.inl x1), some (.inl x2), some (.inl x3), some (.inl x4), some (.inl b_10), some (.inl b_11)]) (st' := [.inl b_11, .inl (M1_13.1 2 i0 13), .inr (.inr (308, i0))]) (M' := M1_13) rfl trivial ?_
              have g25_0 := h.1
              replace h := h.2
              have k_25 : ∀ b_14 : Int, b_14 = (if b_11 = 0 then b_10 else (b_10 + x4)) → Wp 1 204 143 [some (.inr (.inr (2, i0))), some (.inl x1), some (.inl x2), some (.inl x3), some (.inl x4), some (.inl b_10), some (.inl b_11)] [.inl b_14, .inl (M1_13.1 2 i0 13), .inr (.inr (308, i0))] M1_13 (rV Q) := by
                intro b_14 e_b_14
                replace h := h b_14 e_b_14
                refine Wp.call (put_308) rfl rfl (by decide) ?_
                rintro v_ M_ ⟨eM_, ev_⟩
                rw [eM_, ev_]
                clear eM_ ev_ v_ M_
                refine Bd (e := setA M1_13 308 i0 (putN 340 (M1_13.1 308 i0) (M1_13.1 2 i0 13) b_14)) (P := fun M1_14 : Mm => Wp 1 204 146 [some (.inr (.inr (2, i0))), some (.inl x1), some (.inl x2), some (.inl x3), some (.inl x4), some (.inl b_10), some (.inl b_11)] [] M1_14 (rV Q)) ?_
                intro M1_14 e_M1_14
                replace h := h M1_14 e_M1_14
                refine Wp.path (k := 6) [] (C := [inR ((M1_14.1 2 i0 13) + 1)]) (pc' := 156) (ls' := [some (.inr (.inr (2, i0))), some (.inl x1), some (.inl x2), some (.inl x3), some (.inl x4), some (.inl b_10), some (.inl b_11)]) (st' := []) (M' := setI M1_14 2 i0 13 ((M1_14.1 2 i0 13) + 1)) rfl h.1 ?_
                replace h := h.2
                refine Bd (P := fun M1_15 : Mm => Wp 1 204 156 [some (.inr (.inr (2, i0))), some (.inl x1), some (.inl x2), some (.inl x3), some (.inl x4), some (.inl b_10), some (.inl b_11)] [] M1_15 (rV Q)) ?_
                intro M1_15 e_M1_15
                replace h := h M1_15 e_M1_15
                exact Wp.ret rfl ⟨rfl, h⟩
              clear h
              rcases Decidable.em (b_11 = 0) with c_26 | c_26
              · refine Wp.path (k := 1) [1] (C := [b_11 = 0]) (pc' := 141) (ls' := [some (.inr (.inr (2, i0))), some (.inl x1), some (.inl x2), some (.inl x3), some (.inl x4), some (.inl b_10), some (.inl b_11)]) (st' := [.inl (M1_13.1 2 i0 13), .inr (.inr (308, i0))]) (M' := M1_13) rfl c_26 ?_
                refine Wp.path (k := 1) [] (C := []) (pc' := 143) (ls' := [some (.inr (.inr (2, i0))), some (.inl x1), some (.inl x2), some (.inl x3), some (.inl x4), some (.inl b_10), some (.inl b_11)]) (st' := [.inl b_10, .inl (M1_13.1 2 i0 13), .inr (.inr (308, i0))]) (M' := M1_13) rfl trivial ?_
                exact k_25 _ (by rw [if_pos c_26])
              · refine Wp.path (k := 1) [0] (C := [b_11 ≠ 0]) (pc' := 133) (ls' := [some (.inr (.inr (2, i0))), some (.inl x1), some (.inl x2), some (.inl x3), some (.inl x4), some (.inl b_10), some (.inl b_11)]) (st' := [.inl (M1_13.1 2 i0 13), .inr (.inr (308, i0))]) (M' := M1_13) rfl c_26 ?_
                refine Wp.path (k := 4) [] (C := [inR (b_10 + x4)]) (pc' := 143) (ls' := [some (.inr (.inr (2, i0))), some (.inl x1), some (.inl x2), some (.inl x3), some (.inl x4), some (.inl b_10), some (.inl b_11)]) (st' := [.inl (b_10 + x4), .inl (M1_13.1 2 i0 13), .inr (.inr (308, i0))]) (M' := M1_13) rfl (g25_0 c_26) ?_
                exact k_25 _ (by rw [if_neg c_26])
            clear h
            rcases Decidable.em (b_11 = 0) with c_28 | c_28
            · refine Wp.path (k := 1) [1] (C := [b_11 = 0]) (pc' := 112) (ls' := [some (.inr (.inr (2, i0))), some (.inl x1), some (.inl x2), some (.inl x3), some (.inl x4), some (.inl b_10), some (.inl b_11)]) (st' := [.inl (M1_12.1 2 i0 13), .inr (.inr (307, i0))]) (M' := M1_12) rfl c_28 ?_
              refine Wp.path (k := 3) [] (C := [inR (b_10 - x4)]) (pc' := 117) (ls' := [some (.inr (.inr (2, i0))), some (.inl x1), some (.inl x2), some (.inl x3), some (.inl x4), some (.inl b_10), some (.inl b_11)]) (st' := [.inl (b_10 - x4), .inl (M1_12.1 2 i0 13), .inr (.inr (307, i0))]) (M' := M1_12) rfl (g27_0 c_28) ?_
              exact k_27 _ (by rw [if_pos c_28])
            · refine Wp.path (k := 1) [0] (C := [b_11 ≠ 0]) (pc' := 107) (ls' := [some (.inr (.inr (2, i0))), some (.inl x1), some (.inl x2), some (.inl x3), some (.inl x4), some (.inl b_10), some (.inl b_11)]) (st' := [.inl (M1_12.1 2 i0 13), .inr (.inr (307, i0))]) (M' := M1_12) rfl c_28 ?_
              refine Wp.path (k := 2) [] (C := []) (pc' := 117) (ls' := [some (.inr (.inr (2, i0))), some (.inl x1), some (.inl x2), some (.inl x3), some (.inl x4), some (.inl b_10), some (.inl b_11)]) (st' := [.inl b_10, .inl (M1_12.1 2 i0 13), .inr (.inr (307, i0))]) (M' := M1_12) rfl trivial ?_
              exact k_27 _ (by rw [if_neg c_28])
          clear h
          rcases Decidable.em (levV x3 = 0) with c_30 | c_30
          · refine Wp.path (k := 1) [1] (C := [levV x3 = 0]) (pc' := 90) (ls' := [some (.inr (.inr (2, i0))), some (.inl x1), some (.inl x2), some (.inl x3), some (.inl x4), some (.inl b_10), some (.inl b_11)]) (st' := [.inl (M1_11.1 2 i0 13), .inr (.inr (306, i0))]) (M' := M1_11) rfl c_30 ?_
            refine Wp.path (k := 1) [] (C := []) (pc' := 91) (ls' := [some (.inr (.inr (2, i0))), some (.inl x1), some (.inl x2), some (.inl x3), some (.inl x4), some (.inl b_10), some (.inl b_11)]) (st' := [.inl x1, .inl (M1_11.1 2 i0 13), .inr (.inr (306, i0))]) (M' := M1_11) rfl trivial ?_
            exact k_29 _ (by rw [if_pos c_30])
          · refine Wp.path (k := 1) [0] (C := [levV x3 ≠ 0]) (pc' := 86) (ls' := [some (.inr (.inr (2, i0))), some (.inl x1), some (.inl x2), some (.inl x3), some (.inl x4), some (.inl b_10), some (.inl b_11)]) (st' := [.inl (M1_11.1 2 i0 13), .inr (.inr (306, i0))]) (M' := M1_11) rfl c_30 ?_
            refine Wp.path (k := 2) [] (C := []) (pc' := 91) (ls' := [some (.inr (.inr (2, i0))), some (.inl x1), some (.inl x2), some (.inl x3), some (.inl x4), some (.inl b_10), some (.inl b_11)]) (st' := [.inl x2, .inl (M1_11.1 2 i0 13), .inr (.inr (306, i0))]) (M' := M1_11) rfl trivial ?_
            exact k_29 _ (by rw [if_neg c_30])
        clear h
        rcases Decidable.em (x3 = 0) with c_32 | c_32
        · refine Wp.path (k := 1) [1] (C := [x3 = 0]) (pc' := 52) (ls' := [some (.inr (.inr (2, i0))), some (.inl x1), some (.inl x2), some (.inl x3), some (.inl x4), some (.inl b_10), none]) (st' := []) (M' := M) rfl c_32 ?_
          refine Wp.path (k := 2) [] (C := []) (pc' := 57) (ls' := [some (.inr (.inr (2, i0))), some (.inl x1), some (.inl x2), some (.inl x3), some (.inl x4), some (.inl b_10), none]) (st' := [.inl 1]) (M' := M) rfl trivial ?_
          exact k_31 _ (by rw [if_pos c_32])
        · refine Wp.path (k := 1) [0] (C := [x3 ≠ 0]) (pc' := 47) (ls' := [some (.inr (.inr (2, i0))), some (.inl x1), some (.inl x2), some (.inl x3), some (.inl x4), some (.inl b_10), none]) (st' := []) (M' := M) rfl c_32 ?_
          refine Wp.path (k := 2) [] (C := []) (pc' := 49) (ls' := [some (.inr (.inr (2, i0))), some (.inl x1), some (.inl x2), some (.inl x3), some (.inl x4), some (.inl b_10), none]) (st' := [.inl 1, .inl x3]) (M' := M) rfl trivial ?_
          rcases Decidable.em (x3 = 1) with c_33 | c_33
          · refine Wp.path (k := 1) [0] (C := [x3 = 1]) (pc' := 52) (ls' := [some (.inr (.inr (2, i0))), some (.inl x1), some (.inl x2), some (.inl x3), some (.inl x4), some (.inl b_10), none]) (st' := []) (M' := M) rfl c_33 ?_
            refine Wp.path (k := 2) [] (C := []) (pc' := 57) (ls' := [some (.inr (.inr (2, i0))), some (.inl x1), some (.inl x2), some (.inl x3), some (.inl x4), some (.inl b_10), none]) (st' := [.inl 1]) (M' := M) rfl trivial ?_
            exact k_31 _ (by rw [if_neg c_32, if_neg (not_not_intro c_33)])
          · refine Wp.path (k := 1) [1] (C := [x3 ≠ 1]) (pc' := 56) (ls' := [some (.inr (.inr (2, i0))), some (.inl x1), some (.inl x2), some (.inl x3), some (.inl x4), some (.inl b_10), none]) (st' := []) (M' := M) rfl c_33 ?_
            refine Wp.path (k := 1) [] (C := []) (pc' := 57) (ls' := [some (.inr (.inr (2, i0))), some (.inl x1), some (.inl x2), some (.inl x3), some (.inl x4), some (.inl b_10), none]) (st' := [.inl 0]) (M' := M) rfl trivial ?_
            exact k_31 _ (by rw [if_neg c_32, if_pos c_33])
      clear h
      rcases Decidable.em (levV x3 = 0) with c_35 | c_35
      · refine Wp.path (k := 1) [1] (C := [levV x3 = 0]) (pc' := 40) (ls' := [some (.inr (.inr (2, i0))), some (.inl x1), some (.inl x2), some (.inl x3), some (.inl x4), none, none]) (st' := []) (M' := M) rfl c_35 ?_
        refine Wp.path (k := 1) [] (C := []) (pc' := 41) (ls' := [some (.inr (.inr (2, i0))), some (.inl x1), some (.inl x2), some (.inl x3), some (.inl x4), none, none]) (st' := [.inl x2]) (M' := M) rfl trivial ?_
        exact k_34 _ (by rw [if_pos c_35])
      · refine Wp.path (k := 1) [0] (C := [levV x3 ≠ 0]) (pc' := 36) (ls' := [some (.inr (.inr (2, i0))), some (.inl x1), some (.inl x2), some (.inl x3), some (.inl x4), none, none]) (st' := []) (M' := M) rfl c_35 ?_
        refine Wp.path (k := 2) [] (C := []) (pc' := 41) (ls' := [some (.inr (.inr (2, i0))), some (.inl x1), some (.inl x2), some (.inl x3), some (.inl x4), none, none]) (st' := [.inl x1]) (M' := M) rfl trivial ?_
        exact k_34 _ (by rw [if_neg c_35])
/-- X2_stepsToBend -/
def E_205 (i0 : Nat) (x1 : Int) (x2 : Int) (x3 : Int) (M : Mm) (Q : Int → Mm → Prop) : Prop := Ev 1 205 [.inr (.inr (2, i0)), .inl x1, .inl x2, .inl x3] M (rI Q)
theorem m_205 {i0 : Nat} {x1 : Int} {x2 : Int} {x3 : Int} {M : Mm} {Q Q1 : Int → Mm → Prop} (h : E_205 i0 x1 x2 x3 M Q) (k : (∀ r M1, Q r M1 → Q1 r M1)) : E_205 i0 x1 x2 x3 M Q1 := Ev.mono h (fun v M1 ⟨r, h1, h2⟩ => ⟨r, h1, k _ _ h2⟩)
def L_205_3 (i0 : Nat) (x1 : Int) (x2 : Int) (x3 : Int) (x4 : Int) (M : Mm) (Q : Int → Mm → Prop) : Prop := Wp 1 205 3 [some (.inr (.inr (2, i0))), some (.inl x1), some (.inl x2), some (.inl x3), some (.inl x4)] [] M (rI Q)
theorem s_205_0 {i0 : Nat} {x1 : Int} {x2 : Int} {x3 : Int} {M : Mm} {Q : Int → Mm → Prop} (h : (L_205_3 i0 x1 x2 x3 1 M Q)) : E_205 i0 x1 x2 x3 M Q := by
  show Wp 1 205 0 [some (.inr (.inr (2, i0))), some (.inl x1), some (.inl x2), some (.inl x3), none] [] M (rI Q)
  refine Wp.path (k := 2) [] (C := []) (pc' := 3) (ls' := [some (.inr (.inr (2, i0))), some (.inl x1), some (.inl x2), some (.inl x3), some (.inl 1)]) (st' := []) (M' := M) rfl trivial ?_
  exact h
theorem s_205_3 {i0 : Nat} {x1 : Int} {x2 : Int} {x3 : Int} {x4 : Int} {M : Mm} {Q : Int → Mm → Prop} (h : ((48 ≤ x4 → (Q 48 M)) ∧ (x4 < 48 → (((-2147483648 ≤ x4 * (stepXV x3) ∧ x4 * (stepXV x3) ≤ 2147483647) ∧ (-2147483648 ≤ x1 + (x4 * (stepXV x3)) ∧ x1 + (x4 * (stepXV x3)) ≤ 2147483647)) ∧ (((-2147483648 ≤ x4 * (stepYV x3) ∧ x4 * (stepYV x3) ≤ 2147483647) ∧ (-2147483648 ≤ x2 + (x4 * (stepYV x3)) ∧ x2 + (x4 * (stepYV x3)) ≤ 2147483647)) ∧ ((bndV (M.2 309 i0) (x1 + (x4 * (stepXV x3))) (x2 + (x4 * (stepYV x3))) = 0 → (((-2147483648 ≤ x4 + 1 ∧ x4 + 1 ≤ 2147483647)) ∧ (L_205_3 i0 x1 x2 x3 (x4 + 1) M Q))) ∧ (bndV (M.2 309 i0) (x1 + (x4 * (stepXV x3))) (x2 + (x4 * (stepYV x3))) ≠ 0 → (Q x4 M)))))))) : L_205_3 i0 x1 x2 x3 x4 M Q := by
  show Wp 1 205 3 [some (.inr (.inr (2, i0))), some (.inl x1), some (.inl x2), some (.inl x3), some (.inl x4)] [] M (rI Q)
  refine Wp.path (k := 2) [] (C := []) (pc' := 7) (ls' := [some (.inr (.inr (2, i0))), some (.inl x1), some (.inl x2), some (.inl x3), some (.inl x4)]) (st' := [.inl 48, .inl x4]) (M' := M) rfl trivial ?_
  rcases Int.lt_or_le (x4) (48) with c_1 | c_1
  · replace h := h.2 c_1
    refine Wp.path (k := 1) [0] (C := [x4 < 48]) (pc' := 10) (ls' := [some (.inr (.inr (2, i0))), some (.inl x1), some (.inl x2), some (.inl x3), some (.inl x4)]) (st' := []) (M' := M) rfl c_1 ?_
    refine Wp.path (k := 4) [] (C := []) (pc' := 15) (ls' := [some (.inr (.inr (2, i0))), some (.inl x1), some (.inl x2), some (.inl x3), some (.inl x4)]) (st' := [.inl x3, .inl x4, .inl x1, .inr (.inr (2, i0))]) (M' := M) rfl trivial ?_
    refine Wp.call (e939) rfl rfl (by decide) ?_
    rintro v_ M_ ⟨eM_, ev_⟩
    rw [eM_, ev_]
    clear eM_ ev_ v_ M_
    show Wp 1 205 18 [some (.inr (.inr (2, i0))), some (.inl x1), some (.inl x2), some (.inl x3), some (.inl x4)] [.inl (stepXV x3), .inl x4, .inl x1, .inr (.inr (2, i0))] M (rI Q)
    refine Wp.path (k := 5) [] (C := [inR (x4 * (stepXV x3)), inR (x1 + (x4 * (stepXV x3)))]) (pc' := 24) (ls' := [some (.inr (.inr (2, i0))), some (.inl x1), some (.inl x2), some (.inl x3), some (.inl x4)]) (st' := [.inl x3, .inl x4, .inl x2, .inl (x1 + (x4 * (stepXV x3))), .inr (.inr (2, i0))]) (M' := M) rfl ⟨h.1.1, h.1.2⟩ ?_
    replace h := h.2
    refine Wp.call (e940) rfl rfl (by decide) ?_
    rintro v_ M_ ⟨eM_, ev_⟩
    rw [eM_, ev_]
    clear eM_ ev_ v_ M_
    show Wp 1 205 27 [some (.inr (.inr (2, i0))), some (.inl x1), some (.inl x2), some (.inl x3), some (.inl x4)] [.inl (stepYV x3), .inl x4, .inl x2, .inl (x1 + (x4 * (stepXV x3))), .inr (.inr (2, i0))] M (rI Q)
    refine Wp.path (k := 2) [] (C := [inR (x4 * (stepYV x3)), inR (x2 + (x4 * (stepYV x3)))]) (pc' := 29) (ls' := [some (.inr (.inr (2, i0))), some (.inl x1), some (.inl x2), some (.inl x3), some (.inl x4)]) (st' := [.inl (x2 + (x4 * (stepYV x3))), .inl (x1 + (x4 * (stepXV x3))), .inr (.inr (2, i0))]) (M' := M) rfl ⟨h.1.1, h.1.2⟩ ?_
    replace h := h.2
    refine Wp.call (e206) rfl rfl (by decide) ?_
    rintro v_ M_ ⟨eM_, ev_⟩
    rw [eM_, ev_]
    clear eM_ ev_ v_ M_
    show Wp 1 205 32 [some (.inr (.inr (2, i0))), some (.inl x1), some (.inl x2), some (.inl x3), some (.inl x4)] [.inl (bndV (M.2 309 i0) (x1 + (x4 * (stepXV x3))) (x2 + (x4 * (stepYV x3))))] M (rI Q)
    rcases Decidable.em (bndV (M.2 309 i0) (x1 + (x4 * (stepXV x3))) (x2 + (x4 * (stepYV x3))) = 0) with c_2 | c_2
    · replace h := h.1 c_2
      refine Wp.path (k := 1) [1] (C := [bndV (M.2 309 i0) (x1 + (x4 * (stepXV x3))) (x2 + (x4 * (stepYV x3))) = 0]) (pc' := 38) (ls' := [some (.inr (.inr (2, i0))), some (.inl x1), some (.inl x2), some (.inl x3), some (.inl x4)]) (st' := []) (M' := M) rfl c_2 ?_
      refine Wp.path (k := 2) [] (C := [inR (x4 + 1)]) (pc' := 3) (ls' := [some (.inr (.inr (2, i0))), some (.inl x1), some (.inl x2), some (.inl x3), some (.inl (x4 + 1))]) (st' := []) (M' := M) rfl h.1 ?_
      replace h := h.2
      exact h
    · replace h := h.2 c_2
      refine Wp.path (k := 1) [0] (C := [bndV (M.2 309 i0) (x1 + (x4 * (stepXV x3))) (x2 + (x4 * (stepYV x3))) ≠ 0]) (pc' := 35) (ls' := [some (.inr (.inr (2, i0))), some (.inl x1), some (.inl x2), some (.inl x3), some (.inl x4)]) (st' := []) (M' := M) rfl c_2 ?_
      refine Wp.path (k := 1) [] (C := []) (pc' := 37) (ls' := [some (.inr (.inr (2, i0))), some (.inl x1), some (.inl x2), some (.inl x3), some (.inl x4)]) (st' := [.inl x4]) (M' := M) rfl trivial ?_
      exact Wp.ret rfl ⟨_, rfl, h⟩
  · replace h := h.1 c_1
    refine Wp.path (k := 1) [1] (C := [48 ≤ x4]) (pc' := 44) (ls' := [some (.inr (.inr (2, i0))), some (.inl x1), some (.inl x2), some (.inl x3), some (.inl x4)]) (st' := []) (M' := M) rfl c_1 ?_
    refine Wp.path (k := 1) [] (C := []) (pc' := 46) (ls' := [some (.inr (.inr (2, i0))), some (.inl x1), some (.inl x2), some (.inl x3), some (.inl x4)]) (st' := [.inl 48]) (M' := M) rfl trivial ?_
    exact Wp.ret rfl ⟨_, rfl, h⟩
/-- X3_labelOf -/
def E_311 (i0 : Nat) (x1 : Int) (M : Mm) (Q : Int → Mm → Prop) : Prop := Ev 1 311 [.inr (.inr (3, i0)), .inl x1] M (rI Q)
theorem m_311 {i0 : Nat} {x1 : Int} {M : Mm} {Q Q1 : Int → Mm → Prop} (h : E_311 i0 x1 M Q) (k : (∀ r M1, Q r M1 → Q1 r M1)) : E_311 i0 x1 M Q1 := Ev.mono h (fun v M1 ⟨r, h1, h2⟩ => ⟨r, h1, k _ _ h2⟩)
def L_311_45 (i0 : Nat) (x1 : Int) (x2 : Int) (x3 : Int) (x4 : Int) (x5 : Int) (M : Mm) (Q : Int → Mm → Prop) : Prop := Wp 1 311 45 [some (.inr (.inr (3, i0))), some (.inl x1), some (.inl x2), some (.inl x3), some (.inl x4), some (.inl x5)] [] M (rI Q)
theorem s_311_0 {i0 : Nat} {x1 : Int} {M : Mm} {Q : Int → Mm → Prop} (h : ((-2147483648 ≤ x1 ∧ x1 ≤ 2147483647)) ∧ (∀ d : Int, d = Int.tmod x1 48 → (((-2147483648 ≤ x1 ∧ x1 ≤ 2147483647)) ∧ (∀ d_1 : Int, d_1 = Int.tdiv x1 48 → ((covV (M.2 401 i0) d d_1 = 0 → (∀ x5 : Int, x5 = atN 49 (M.1 402 i0) d_1 → (L_311_45 i0 x1 d d_1 0 x5 M Q))) ∧ (covV (M.2 401 i0) d d_1 ≠ 0 → (((-2147483648 ≤ d_1 + 1 ∧ d_1 + 1 ≤ 2147483647)) ∧ (∀ x4 : Int, x4 = atN 49 (M.1 402 i0) (d_1 + 1) → (∀ x5_1 : Int, x5_1 = atN 49 (M.1 402 i0) d_1 → (L_311_45 i0 x1 d d_1 x4 x5_1 M Q)))))))))) : E_311 i0 x1 M Q := by
  show Wp 1 311 0 [some (.inr (.inr (3, i0))), some (.inl x1), none, none, none, none] [] M (rI Q)
  refine Wp.path (k := 3) [] (C := [inR x1 ∧ 0 < 48 ∧ inR 48]) (pc' := 4) (ls' := [some (.inr (.inr (3, i0))), some (.inl x1), none, none, none, none]) (st' := [.inl (Int.tmod x1 48)]) (M' := M) rfl ⟨h.1, by decide, ⟨by decide, by decide⟩⟩ ?_
  replace h := h.2
  refine Bd (P := fun d : Int => Wp 1 311 4 [some (.inr (.inr (3, i0))), some (.inl x1), none, none, none, none] [.inl d] M (rI Q)) ?_
  intro d e_d
  replace h := h d e_d
  refine Wp.path (k := 4) [] (C := [inR x1 ∧ 0 < 48 ∧ inR 48]) (pc' := 9) (ls' := [some (.inr (.inr (3, i0))), some (.inl x1), some (.inl d), none, none, none]) (st' := [.inl (Int.tdiv x1 48)]) (M' := M) rfl ⟨h.1, by decide, ⟨by decide, by decide⟩⟩ ?_
  replace h := h.2
  refine Bd (P := fun d_1 : Int => Wp 1 311 9 [some (.inr (.inr (3, i0))), some (.inl x1), some (.inl d), none, none, none] [.inl d_1] M (rI Q)) ?_
  intro d_1 e_d_1
  replace h := h d_1 e_d_1
  refine Wp.path (k := 4) [] (C := []) (pc' := 13) (ls' := [some (.inr (.inr (3, i0))), some (.inl x1), some (.inl d), some (.inl d_1), none, none]) (st' := [.inl d_1, .inl d, .inr (.inr (3, i0))]) (M' := M) rfl trivial ?_
  refine Wp.call (e301) rfl rfl (by decide) ?_
  rintro v_ M_ ⟨eM_, ev_⟩
  rw [eM_, ev_]
  clear eM_ ev_ v_ M_
  show Wp 1 311 16 [some (.inr (.inr (3, i0))), some (.inl x1), some (.inl d), some (.inl d_1), none, none] [.inl (covV (M.2 401 i0) d d_1)] M (rI Q)
  rcases Decidable.em (covV (M.2 401 i0) d d_1 = 0) with c_1 | c_1
  · replace h := h.1 c_1
    refine Wp.path (k := 1) [1] (C := [covV (M.2 401 i0) d d_1 = 0]) (pc' := 32) (ls' := [some (.inr (.inr (3, i0))), some (.inl x1), some (.inl d), some (.inl d_1), none, none]) (st' := []) (M' := M) rfl c_1 ?_
    refine Wp.path (k := 5) [] (C := []) (pc' := 40) (ls' := [some (.inr (.inr (3, i0))), some (.inl x1), some (.inl d), some (.inl d_1), some (.inl 0), none]) (st' := [.inl d_1, .inr (.inr (402, i0))]) (M' := M) rfl trivial ?_
    refine Wp.call (at_402) rfl rfl (by decide) ?_
    rintro v_ M_ ⟨eM_, ev_⟩
    rw [eM_, ev_]
    clear eM_ ev_ v_ M_
    show Wp 1 311 43 [some (.inr (.inr (3, i0))), some (.inl x1), some (.inl d), some (.inl d_1), some (.inl 0), none] [.inl (atN 49 (M.1 402 i0) d_1)] M (rI Q)
    refine Wp.path (k := 1) [] (C := []) (pc' := 45) (ls' := [some (.inr (.inr (3, i0))), some (.inl x1), some (.inl d), some (.inl d_1), some (.inl 0), some (.inl (atN 49 (M.1 402 i0) d_1))]) (st' := []) (M' := M) rfl trivial ?_
    refine Bd (P := fun x5 : Int => Wp 1 311 45 [some (.inr (.inr (3, i0))), some (.inl x1), some (.inl d), some (.inl d_1), some (.inl 0), some (.inl x5)] [] M (rI Q)) ?_
    intro x5 e_x5
    replace h := h x5 e_x5
    exact h
  · replace h := h.2 c_1
    refine Wp.path (k := 1) [0] (C := [covV (M.2 401 i0) d d_1 ≠ 0]) (pc' := 19) (ls' := [some (.inr (.inr (3, i0))), some (.inl x1), some (.inl d), some (.inl d_1), none, none]) (st' := []) (M' := M) rfl c_1 ?_
    refine Wp.path (k := 5) [] (C := [inR (d_1 + 1)]) (pc' := 26) (ls' := [some (.inr (.inr (3, i0))), some (.inl x1), some (.inl d), some (.inl d_1), none, none]) (st' := [.inl (d_1 + 1), .inr (.inr (402, i0))]) (M' := M) rfl h.1 ?_
    replace h := h.2
    refine Wp.call (at_402) rfl rfl (by decide) ?_
    rintro v_ M_ ⟨eM_, ev_⟩
    rw [eM_, ev_]
    clear eM_ ev_ v_ M_
    show Wp 1 311 29 [some (.inr (.inr (3, i0))), some (.inl x1), some (.inl d), some (.inl d_1), none, none] [.inl (atN 49 (M.1 402 i0) (d_1 + 1))] M (rI Q)
    refine Wp.path (k := 2) [] (C := []) (pc' := 35) (ls' := [some (.inr (.inr (3, i0))), some (.inl x1), some (.inl d), some (.inl d_1), some (.inl (atN 49 (M.1 402 i0) (d_1 + 1))), none]) (st' := []) (M' := M) rfl trivial ?_
    refine Bd (P := fun x4 : Int => Wp 1 311 35 [some (.inr (.inr (3, i0))), some (.inl x1), some (.inl d), some (.inl d_1), some (.inl x4), none] [] M (rI Q)) ?_
    intro x4 e_x4
    replace h := h x4 e_x4
    refine Wp.path (k := 3) [] (C := []) (pc' := 40) (ls' := [some (.inr (.inr (3, i0))), some (.inl x1), some (.inl d), some (.inl d_1), some (.inl x4), none]) (st' := [.inl d_1, .inr (.inr (402, i0))]) (M' := M) rfl trivial ?_
    refine Wp.call (at_402) rfl rfl (by decide) ?_
    rintro v_ M_ ⟨eM_, ev_⟩
    rw [eM_, ev_]
    clear eM_ ev_ v_ M_
    show Wp 1 311 43 [some (.inr (.inr (3, i0))), some (.inl x1), some (.inl d), some (.inl d_1), some (.inl x4), none] [.inl (atN 49 (M.1 402 i0) d_1)] M (rI Q)
    refine Wp.path (k := 1) [] (C := []) (pc' := 45) (ls' := [some (.inr (.inr (3, i0))), some (.inl x1), some (.inl d), some (.inl d_1), some (.inl x4), some (.inl (atN 49 (M.1 402 i0) d_1))]) (st' := []) (M' := M) rfl trivial ?_
    refine Bd (P := fun x5_1 : Int => Wp 1 311 45 [some (.inr (.inr (3, i0))), some (.inl x1), some (.inl d), some (.inl d_1), some (.inl x4), some (.inl x5_1)] [] M (rI Q)) ?_
    intro x5_1 e_x5_1
    replace h := h x5_1 e_x5_1
    exact h
theorem s_311_45 {i0 : Nat} {x1 : Int} {x2 : Int} {x3 : Int} {x4 : Int} {x5 : Int} {M : Mm} {Q : Int → Mm → Prop} (h : ((x4 ≤ x5 → (Q (-1) M)) ∧ (x5 < x4 → (((lsr (atJ 288 (M.2 403 i0) x5) x2) &&& (Int64.ofNat 1) = Int64.ofNat 0 → (((-2147483648 ≤ x5 + 1 ∧ x5 + 1 ≤ 2147483647)) ∧ (L_311_45 i0 x1 x2 x3 x4 (x5 + 1) M Q))) ∧ ((lsr (atJ 288 (M.2 403 i0) x5) x2) &&& (Int64.ofNat 1) ≠ Int64.ofNat 0 → (Q (atN 288 (M.1 405 i0) x5) M)))))) : L_311_45 i0 x1 x2 x3 x4 x5 M Q := by
  show Wp 1 311 45 [some (.inr (.inr (3, i0))), some (.inl x1), some (.inl x2), some (.inl x3), some (.inl x4), some (.inl x5)] [] M (rI Q)
  refine Wp.path (k := 2) [] (C := []) (pc' := 49) (ls' := [some (.inr (.inr (3, i0))), some (.inl x1), some (.inl x2), some (.inl x3), some (.inl x4), some (.inl x5)]) (st' := [.inl x4, .inl x5]) (M' := M) rfl trivial ?_
  rcases Int.lt_or_le (x5) (x4) with c_1 | c_1
  · replace h := h.2 c_1
    refine Wp.path (k := 1) [0] (C := [x5 < x4]) (pc' := 52) (ls' := [some (.inr (.inr (3, i0))), some (.inl x1), some (.inl x2), some (.inl x3), some (.inl x4), some (.inl x5)]) (st' := []) (M' := M) rfl c_1 ?_
    refine Wp.path (k := 3) [] (C := []) (pc' := 58) (ls' := [some (.inr (.inr (3, i0))), some (.inl x1), some (.inl x2), some (.inl x3), some (.inl x4), some (.inl x5)]) (st' := [.inl x5, .inr (.inr (403, i0))]) (M' := M) rfl trivial ?_
    refine Wp.call (rat_403) rfl rfl (by decide) ?_
    rintro v_ M_ ⟨eM_, ev_⟩
    rw [eM_, ev_]
    clear eM_ ev_ v_ M_
    show Wp 1 311 61 [some (.inr (.inr (3, i0))), some (.inl x1), some (.inl x2), some (.inl x3), some (.inl x4), some (.inl x5)] [.inr (.inl (atJ 288 (M.2 403 i0) x5))] M (rI Q)
    refine Wp.path (k := 5) [] (C := []) (pc' := 66) (ls' := [some (.inr (.inr (3, i0))), some (.inl x1), some (.inl x2), some (.inl x3), some (.inl x4), some (.inl x5)]) (st' := [.inr (.inl (Int64.ofNat 0)), .inr (.inl ((lsr (atJ 288 (M.2 403 i0) x5) x2) &&& (Int64.ofNat 1)))]) (M' := M) rfl trivial ?_
    rcases Decidable.em ((lsr (atJ 288 (M.2 403 i0) x5) x2) &&& (Int64.ofNat 1) = Int64.ofNat 0) with c_2 | c_2
    · replace h := h.1 c_2
      refine Wp.path (k := 2) [1] (C := [lcm ((lsr (atJ 288 (M.2 403 i0) x5) x2) &&& (Int64.ofNat 1)) (Int64.ofNat 0) = 0]) (pc' := 80) (ls' := [some (.inr (.inr (3, i0))), some (.inl x1), some (.inl x2), some (.inl x3), some (.inl x4), some (.inl x5)]) (st' := []) (M' := M) rfl (lcm_e c_2) ?_
      refine Wp.path (k := 2) [] (C := [inR (x5 + 1)]) (pc' := 45) (ls' := [some (.inr (.inr (3, i0))), some (.inl x1), some (.inl x2), some (.inl x3), some (.inl x4), some (.inl (x5 + 1))]) (st' := []) (M' := M) rfl h.1 ?_
      replace h := h.2
      exact h
    · replace h := h.2 c_2
      refine Wp.path (k := 2) [0] (C := [lcm ((lsr (atJ 288 (M.2 403 i0) x5) x2) &&& (Int64.ofNat 1)) (Int64.ofNat 0) ≠ 0]) (pc' := 70) (ls' := [some (.inr (.inr (3, i0))), some (.inl x1), some (.inl x2), some (.inl x3), some (.inl x4), some (.inl x5)]) (st' := []) (M' := M) rfl (lcm_n c_2) ?_
      refine Wp.path (k := 3) [] (C := []) (pc' := 76) (ls' := [some (.inr (.inr (3, i0))), some (.inl x1), some (.inl x2), some (.inl x3), some (.inl x4), some (.inl x5)]) (st' := [.inl x5, .inr (.inr (405, i0))]) (M' := M) rfl trivial ?_
      refine Wp.call (at_405) rfl rfl (by decide) ?_
      rintro v_ M_ ⟨eM_, ev_⟩
      rw [eM_, ev_]
      clear eM_ ev_ v_ M_
      show Wp 1 311 79 [some (.inr (.inr (3, i0))), some (.inl x1), some (.inl x2), some (.inl x3), some (.inl x4), some (.inl x5)] [.inl (atN 288 (M.1 405 i0) x5)] M (rI Q)
      exact Wp.ret rfl ⟨_, rfl, h⟩
  · replace h := h.1 c_1
    refine Wp.path (k := 1) [1] (C := [x4 ≤ x5]) (pc' := 86) (ls' := [some (.inr (.inr (3, i0))), some (.inl x1), some (.inl x2), some (.inl x3), some (.inl x4), some (.inl x5)]) (st' := []) (M' := M) rfl c_1 ?_
    refine Wp.path (k := 1) [] (C := []) (pc' := 87) (ls' := [some (.inr (.inr (3, i0))), some (.inl x1), some (.inl x2), some (.inl x3), some (.inl x4), some (.inl x5)]) (st' := [.inl (-1)]) (M' := M) rfl trivial ?_
    exact Wp.ret rfl ⟨_, rfl, h⟩
/-- X2_follow -/
def E_203 (i0 : Nat) (i1 : Nat) (x2 : Int) (x3 : Int) (M : Mm) (Q : Mm → Prop) : Prop := Ev 2 203 [.inr (.inr (2, i0)), .inr (.inr (3, i1)), .inl x2, .inl x3] M (rV Q)
theorem m_203 {i0 : Nat} {i1 : Nat} {x2 : Int} {x3 : Int} {M : Mm} {Q Q1 : Mm → Prop} (h : E_203 i0 i1 x2 x3 M Q) (k : (∀ M1, Q M1 → Q1 M1)) : E_203 i0 i1 x2 x3 M Q1 := Ev.mono h (fun v M1 h => ⟨h.1, k _ h.2⟩)
def L_203_49 (i0 : Nat) (i1 : Nat) (x2 : Int) (x3 : Int) (x4 : Int) (x5 : Int) (x6 : Int) (x7 : Int) (x8 : Int) (x9 : Int) (x10 : Int) (x11 : Int) (M : Mm) (Q : Mm → Prop) : Prop := ∀ o12 o13 : Option Vv, Wp 2 203 49 [some (.inr (.inr (2, i0))), some (.inr (.inr (3, i1))), some (.inl x2), some (.inl x3), some (.inl x4), some (.inl x5), some (.inl x6), some (.inl x7), some (.inl x8), some (.inl x9), some (.inl x10), some (.inl x11), o12, o13] [] M (rV Q)
theorem s_203_0 {i0 : Nat} {i1 : Nat} {x2 : Int} {x3 : Int} {M : Mm} {Q : Mm → Prop} (h : (∀ b : Int, b = (if covV (M.2 401 i1) x2 x3 ≠ 0 then 0 else 1) → (∀ x5 : Int, x5 = M.1 2 i0 13 → (∀ b_1 : Int, b_1 = (if b = 0 then 0 else 1) → (L_203_49 i0 i1 x2 x3 b x5 b_1 x2 x3 0 1 0 M Q))))) : E_203 i0 i1 x2 x3 M Q := by
  show Wp 2 203 0 [some (.inr (.inr (2, i0))), some (.inr (.inr (3, i1))), some (.inl x2), some (.inl x3), none, none, none, none, none, none, none, none, none, none] [] M (rV Q)
  refine Wp.path (k := 3) [] (C := []) (pc' := 3) (ls' := [some (.inr (.inr (2, i0))), some (.inr (.inr (3, i1))), some (.inl x2), some (.inl x3), none, none, none, none, none, none, none, none, none, none]) (st' := [.inl x3, .inl x2, .inr (.inr (3, i1))]) (M' := M) rfl trivial ?_
  refine Wp.call (e301) rfl rfl (by decide) ?_
  rintro v_ M_ ⟨eM_, ev_⟩
  rw [eM_, ev_]
  clear eM_ ev_ v_ M_
  show Wp 2 203 6 [some (.inr (.inr (2, i0))), some (.inr (.inr (3, i1))), some (.inl x2), some (.inl x3), none, none, none, none, none, none, none, none, none, none] [.inl (covV (M.2 401 i1) x2 x3)] M (rV Q)
  have k_3 : ∀ b : Int, b = (if covV (M.2 401 i1) x2 x3 ≠ 0 then 0 else 1) → Wp 2 203 14 [some (.inr (.inr (2, i0))), some (.inr (.inr (3, i1))), some (.inl x2), some (.inl x3), none, none, none, none, none, none, none, none, none, none] [.inl b] M (rV Q) := by
    intro b e_b
    replace h := h b e_b
    refine Wp.path (k := 4) [] (C := []) (pc' := 22) (ls' := [some (.inr (.inr (2, i0))), some (.inr (.inr (3, i1))), some (.inl x2), some (.inl x3), some (.inl b), some (.inl (M.1 2 i0 13)), none, none, none, none, none, none, none, none]) (st' := []) (M' := M) rfl trivial ?_
    refine Bd (P := fun x5 : Int => Wp 2 203 22 [some (.inr (.inr (2, i0))), some (.inr (.inr (3, i1))), some (.inl x2), some (.inl x3), some (.inl b), some (.inl x5), none, none, none, none, none, none, none, none] [] M (rV Q)) ?_
    intro x5 e_x5
    replace h := h x5 e_x5
    refine Wp.path (k := 1) [] (C := []) (pc' := 24) (ls' := [some (.inr (.inr (2, i0))), some (.inr (.inr (3, i1))), some (.inl x2), some (.inl x3), some (.inl b), some (.inl x5), none, none, none, none, none, none, none, none]) (st' := [.inl b]) (M' := M) rfl trivial ?_
    have k_1 : ∀ b_1 : Int, b_1 = (if b = 0 then 0 else 1) → Wp 2 203 32 [some (.inr (.inr (2, i0))), some (.inr (.inr (3, i1))), some (.inl x2), some (.inl x3), some (.inl b), some (.inl x5), none, none, none, none, none, none, none, none] [.inl b_1] M (rV Q) := by
      intro b_1 e_b_1
      replace h := h b_1 e_b_1
      refine Wp.path (k := 11) [] (C := []) (pc' := 49) (ls' := [some (.inr (.inr (2, i0))), some (.inr (.inr (3, i1))), some (.inl x2), some (.inl x3), some (.inl b), some (.inl x5), some (.inl b_1), some (.inl x2), some (.inl x3), some (.inl 0), some (.inl 1), some (.inl 0), none, none]) (st' := []) (M' := M) rfl trivial ?_
      exact h _ _
    clear h
    rcases Decidable.em (b = 0) with c_2 | c_2
    · refine Wp.path (k := 1) [1] (C := [b = 0]) (pc' := 31) (ls' := [some (.inr (.inr (2, i0))), some (.inr (.inr (3, i1))), some (.inl x2), some (.inl x3), some (.inl b), some (.inl x5), none, none, none, none, none, none, none, none]) (st' := []) (M' := M) rfl c_2 ?_
      refine Wp.path (k := 1) [] (C := []) (pc' := 32) (ls' := [some (.inr (.inr (2, i0))), some (.inr (.inr (3, i1))), some (.inl x2), some (.inl x3), some (.inl b), some (.inl x5), none, none, none, none, none, none, none, none]) (st' := [.inl 0]) (M' := M) rfl trivial ?_
      exact k_1 _ (by rw [if_pos c_2])
    · refine Wp.path (k := 1) [0] (C := [b ≠ 0]) (pc' := 27) (ls' := [some (.inr (.inr (2, i0))), some (.inr (.inr (3, i1))), some (.inl x2), some (.inl x3), some (.inl b), some (.inl x5), none, none, none, none, none, none, none, none]) (st' := []) (M' := M) rfl c_2 ?_
      refine Wp.path (k := 2) [] (C := []) (pc' := 32) (ls' := [some (.inr (.inr (2, i0))), some (.inr (.inr (3, i1))), some (.inl x2), some (.inl x3), some (.inl b), some (.inl x5), none, none, none, none, none, none, none, none]) (st' := [.inl 1]) (M' := M) rfl trivial ?_
      exact k_1 _ (by rw [if_neg c_2])
  clear h
  rcases Decidable.em (covV (M.2 401 i1) x2 x3 = 0) with c_4 | c_4
  · refine Wp.path (k := 1) [0] (C := [covV (M.2 401 i1) x2 x3 = 0]) (pc' := 9) (ls' := [some (.inr (.inr (2, i0))), some (.inr (.inr (3, i1))), some (.inl x2), some (.inl x3), none, none, none, none, none, none, none, none, none, none]) (st' := []) (M' := M) rfl c_4 ?_
    refine Wp.path (k := 2) [] (C := []) (pc' := 14) (ls' := [some (.inr (.inr (2, i0))), some (.inr (.inr (3, i1))), some (.inl x2), some (.inl x3), none, none, none, none, none, none, none, none, none, none]) (st' := [.inl 1]) (M' := M) rfl trivial ?_
    exact k_3 _ (by rw [if_neg (not_not_intro c_4)])
  · refine Wp.path (k := 1) [1] (C := [covV (M.2 401 i1) x2 x3 ≠ 0]) (pc' := 13) (ls' := [some (.inr (.inr (2, i0))), some (.inr (.inr (3, i1))), some (.inl x2), some (.inl x3), none, none, none, none, none, none, none, none, none, none]) (st' := []) (M' := M) rfl c_4 ?_
    refine Wp.path (k := 1) [] (C := []) (pc' := 14) (ls' := [some (.inr (.inr (2, i0))), some (.inr (.inr (3, i1))), some (.inl x2), some (.inl x3), none, none, none, none, none, none, none, none, none, none]) (st' := [.inl 0]) (M' := M) rfl trivial ?_
    exact k_3 _ (by rw [if_pos c_4])
theorem s_203_49 {i0 : Nat} {i1 : Nat} {x2 : Int} {x3 : Int} {x4 : Int} {x5 : Int} {x6 : Int} {x7 : Int} {x8 : Int} {x9 : Int} {x10 : Int} {x11 : Int} {M : Mm} {Q : Mm → Prop} (h : ((340 ≤ x11 → (∀ M1_12 : Mm, M1_12 = setA M 300 i0 (putN 96 (M.1 300 i0) (M.1 2 i0 11) x5) → (((-2147483648 ≤ (M1_12.1 2 i0 13) - x5 ∧ (M1_12.1 2 i0 13) - x5 ≤ 2147483647)) ∧ (∀ M1_13 : Mm, M1_13 = setA M1_12 301 i0 (putN 96 (M1_12.1 301 i0) (M1_12.1 2 i0 11) ((M1_12.1 2 i0 13) - x5)) → (∀ b_7 : Int, b_7 = (if x4 = 0 then 0 else 1) → (∀ M1_14 : Mm, M1_14 = setA M1_13 302 i0 (putN 96 (M1_13.1 302 i0) (M1_13.1 2 i0 11) b_7) → (((-2147483648 ≤ x3 * 48 ∧ x3 * 48 ≤ 2147483647)) ∧ ((x4 ≠ 0 → ((-2147483648 ≤ x2 - 1 ∧ x2 - 1 ≤ 2147483647))) ∧ (∀ b_8 : Int, b_8 = (if x4 = 0 then x2 else (x2 - 1)) → (((-2147483648 ≤ (x3 * 48) + b_8 ∧ (x3 * 48) + b_8 ≤ 2147483647)) ∧ (E_311 i1 ((x3 * 48) + b_8) M1_14 (fun (r_2 : Int) (M1_15 : Mm) => (∀ M1_16 : Mm, M1_16 = setA M1_15 303 i0 (putN 96 (M1_15.1 303 i0) (M1_14.1 2 i0 11) r_2) → (∀ M1_17 : Mm, M1_17 = setA M1_16 304 i0 (putN 96 (M1_16.1 304 i0) (M1_16.1 2 i0 11) x9) → (((-2147483648 ≤ (M1_17.1 2 i0 11) + 1 ∧ (M1_17.1 2 i0 11) + 1 ≤ 2147483647)) ∧ (∀ M1_18 : Mm, M1_18 = setI M1_17 2 i0 11 ((M1_17.1 2 i0 11) + 1) → (∀ b_9 : Int, b_9 = (if x4 = 0 then 0 else 1) → (((-2147483648 ≤ (M1_18.1 2 i0 12) + b_9 ∧ (M1_18.1 2 i0 12) + b_9 ≤ 2147483647)) ∧ (∀ M1_19 : Mm, M1_19 = setI M1_18 2 i0 12 ((M1_18.1 2 i0 12) + b_9) → (((-2147483648 ≤ (M1_19.1 2 i0 15) + x9 ∧ (M1_19.1 2 i0 15) + x9 ≤ 2147483647)) ∧ (∀ M1_20 : Mm, M1_20 = setI M1_19 2 i0 15 ((M1_19.1 2 i0 15) + x9) → (Q M1_20)))))))))))))))))))))) ∧ (x11 < 340 → ((x10 = 0 → (∀ M1 : Mm, M1 = setA M 300 i0 (putN 96 (M.1 300 i0) (M.1 2 i0 11) x5) → (((-2147483648 ≤ (M1.1 2 i0 13) - x5 ∧ (M1.1 2 i0 13) - x5 ≤ 2147483647)) ∧ (∀ M1_1 : Mm, M1_1 = setA M1 301 i0 (putN 96 (M1.1 301 i0) (M1.1 2 i0 11) ((M1.1 2 i0 13) - x5)) → (∀ b : Int, b = (if x4 = 0 then 0 else 1) → (∀ M1_2 : Mm, M1_2 = setA M1_1 302 i0 (putN 96 (M1_1.1 302 i0) (M1_1.1 2 i0 11) b) → (((-2147483648 ≤ x3 * 48 ∧ x3 * 48 ≤ 2147483647)) ∧ ((x4 ≠ 0 → ((-2147483648 ≤ x2 - 1 ∧ x2 - 1 ≤ 2147483647))) ∧ (∀ b_1 : Int, b_1 = (if x4 = 0 then x2 else (x2 - 1)) → (((-2147483648 ≤ (x3 * 48) + b_1 ∧ (x3 * 48) + b_1 ≤ 2147483647)) ∧ (E_311 i1 ((x3 * 48) + b_1) M1_2 (fun (r : Int) (M1_3 : Mm) => (∀ M1_4 : Mm, M1_4 = setA M1_3 303 i0 (putN 96 (M1_3.1 303 i0) (M1_2.1 2 i0 11) r) → (∀ M1_5 : Mm, M1_5 = setA M1_4 304 i0 (putN 96 (M1_4.1 304 i0) (M1_4.1 2 i0 11) x9) → (((-2147483648 ≤ (M1_5.1 2 i0 11) + 1 ∧ (M1_5.1 2 i0 11) + 1 ≤ 2147483647)) ∧ (∀ M1_6 : Mm, M1_6 = setI M1_5 2 i0 11 ((M1_5.1 2 i0 11) + 1) → (∀ b_2 : Int, b_2 = (if x4 = 0 then 0 else 1) → (((-2147483648 ≤ (M1_6.1 2 i0 12) + b_2 ∧ (M1_6.1 2 i0 12) + b_2 ≤ 2147483647)) ∧ (∀ M1_7 : Mm, M1_7 = setI M1_6 2 i0 12 ((M1_6.1 2 i0 12) + b_2) → (((-2147483648 ≤ (M1_7.1 2 i0 15) + x9 ∧ (M1_7.1 2 i0 15) + x9 ≤ 2147483647)) ∧ (∀ M1_8 : Mm, M1_8 = setI M1_7 2 i0 15 ((M1_7.1 2 i0 15) + x9) → (Q M1_8)))))))))))))))))))))) ∧ (x10 ≠ 0 → (E_205 i0 x7 x8 x6 M (fun (r_1 : Int) (M1_9 : Mm) => (E_204 i0 x7 x8 x6 r_1 M1_9 (fun M1_10 : Mm => ((-2147483648 ≤ x9 + r_1 ∧ x9 + r_1 ≤ 2147483647)) ∧ (∀ x9_1 : Int, x9_1 = x9 + r_1 → (((-2147483648 ≤ r_1 * (stepXV x6) ∧ r_1 * (stepXV x6) ≤ 2147483647) ∧ (-2147483648 ≤ x7 + (r_1 * (stepXV x6)) ∧ x7 + (r_1 * (stepXV x6)) ≤ 2147483647)) ∧ (∀ x7_1 : Int, x7_1 = x7 + (r_1 * (stepXV x6)) → (((-2147483648 ≤ r_1 * (stepYV x6) ∧ r_1 * (stepYV x6) ≤ 2147483647) ∧ (-2147483648 ≤ x8 + (r_1 * (stepYV x6)) ∧ x8 + (r_1 * (stepYV x6)) ≤ 2147483647)) ∧ (∀ x8_1 : Int, x8_1 = x8 + (r_1 * (stepYV x6)) → ((-1000 ≤ x7_1 ∧ x7_1 ≤ 1000 ∧ -1000 ≤ x8_1 ∧ x8_1 ≤ 1000) ∧ (∀ b_3 : Int, b_3 = (if arV (M1_10.2 401 i1) x7_1 x8_1 ≠ 1 then 0 else 1) → (∀ b_4 : Int, b_4 = (if b_3 = 0 then 0 else 1) → (((-2147483648 ≤ (M1_10.1 2 i0 14) + b_4 ∧ (M1_10.1 2 i0 14) + b_4 ≤ 2147483647)) ∧ (∀ M1_11 : Mm, M1_11 = setI M1_10 2 i0 14 ((M1_10.1 2 i0 14) + b_4) → (∀ b_5 : Int, b_5 = (if b_3 = 0 then 3 else 1) → (((-2147483648 ≤ x6 + b_5 ∧ x6 + b_5 ≤ 2147483647)) ∧ (∀ x6_1 : Int, x6_1 = ian (x6 + b_5) 3 → (∀ b_6 : Int, b_6 = (if x7_1 ≠ x2 then 1 else (if x8_1 = x3 then 0 else 1)) → (((-2147483648 ≤ x11 + 1 ∧ x11 + 1 ≤ 2147483647)) ∧ (L_203_49 i0 i1 x2 x3 x4 x5 x6_1 x7_1 x8_1 x9_1 b_6 (x11 + 1) M1_11 Q))))))))))))))))))))))))) : L_203_49 i0 i1 x2 x3 x4 x5 x6 x7 x8 x9 x10 x11 M Q := by
  intro o12 o13
  show Wp 2 203 49 [some (.inr (.inr (2, i0))), some (.inr (.inr (3, i1))), some (.inl x2), some (.inl x3), some (.inl x4), some (.inl x5), some (.inl x6), some (.inl x7), some (.inl x8), some (.inl x9), some (.inl x10), some (.inl x11), o12, o13] [] M (rV Q)
  refine Wp.path (k := 2) [] (C := []) (pc' := 54) (ls' := [some (.inr (.inr (2, i0))), some (.inr (.inr (3, i1))), some (.inl x2), some (.inl x3), some (.inl x4), some (.inl x5), some (.inl x6), some (.inl x7), some (.inl x8), some (.inl x9), some (.inl x10), some (.inl x11), o12, o13]) (st' := [.inl 340, .inl x11]) (M' := M) rfl trivial ?_
  rcases Int.lt_or_le (x11) (340) with c_1 | c_1
  · replace h := h.2 c_1
    refine Wp.path (k := 1) [0] (C := [x11 < 340]) (pc' := 57) (ls' := [some (.inr (.inr (2, i0))), some (.inr (.inr (3, i1))), some (.inl x2), some (.inl x3), some (.inl x4), some (.inl x5), some (.inl x6), some (.inl x7), some (.inl x8), some (.inl x9), some (.inl x10), some (.inl x11), o12, o13]) (st' := []) (M' := M) rfl c_1 ?_
    refine Wp.path (k := 1) [] (C := []) (pc' := 59) (ls' := [some (.inr (.inr (2, i0))), some (.inr (.inr (3, i1))), some (.inl x2), some (.inl x3), some (.inl x4), some (.inl x5), some (.inl x6), some (.inl x7), some (.inl x8), some (.inl x9), some (.inl x10), some (.inl x11), o12, o13]) (st' := [.inl x10]) (M' := M) rfl trivial ?_
    rcases Decidable.em (x10 = 0) with c_2 | c_2
    · replace h := h.1 c_2
      refine Wp.path (k := 1) [1] (C := [x10 = 0]) (pc' := 199) (ls' := [some (.inr (.inr (2, i0))), some (.inr (.inr (3, i1))), some (.inl x2), some (.inl x3), some (.inl x4), some (.inl x5), some (.inl x6), some (.inl x7), some (.inl x8), some (.inl x9), some (.inl x10), some (.inl x11), o12, o13]) (st' := []) (M' := M) rfl c_2 ?_
      refine Wp.path (k := 5) [] (C := []) (pc' := 209) (ls' := [some (.inr (.inr (2, i0))), some (.inr (.inr (3, i1))), some (.inl x2), some (.inl x3), some (.inl x4), some (.inl x5), some (.inl x6), some (.inl x7), some (.inl x8), some (.inl x9), some (.inl x10), some (.inl x11), o12, o13]) (st' := [.inl x5, .inl (M.1 2 i0 11), .inr (.inr (300, i0))]) (M' := M) rfl trivial ?_
      refine Wp.call (put_300) rfl rfl (by decide) ?_
      rintro v_ M_ ⟨eM_, ev_⟩
      rw [eM_, ev_]
      clear eM_ ev_ v_ M_
      refine Bd (e := setA M 300 i0 (putN 96 (M.1 300 i0) (M.1 2 i0 11) x5)) (P := fun M1 : Mm => Wp 2 203 212 [some (.inr (.inr (2, i0))), some (.inr (.inr (3, i1))), some (.inl x2), some (.inl x3), some (.inl x4), some (.inl x5), some (.inl x6), some (.inl x7), some (.inl x8), some (.inl x9), some (.inl x10), some (.inl x11), o12, o13] [] M1 (rV Q)) ?_
      intro M1 e_M1
      replace h := h M1 e_M1
      refine Wp.path (k := 8) [] (C := [inR ((M1.1 2 i0 13) - x5)]) (pc' := 227) (ls' := [some (.inr (.inr (2, i0))), some (.inr (.inr (3, i1))), some (.inl x2), some (.inl x3), some (.inl x4), some (.inl x5), some (.inl x6), some (.inl x7), some (.inl x8), some (.inl x9), some (.inl x10), some (.inl x11), o12, o13]) (st' := [.inl ((M1.1 2 i0 13) - x5), .inl (M1.1 2 i0 11), .inr (.inr (301, i0))]) (M' := M1) rfl h.1 ?_
      replace h := h.2
      refine Wp.call (put_301) rfl rfl (by decide) ?_
      rintro v_ M_ ⟨eM_, ev_⟩
      rw [eM_, ev_]
      clear eM_ ev_ v_ M_
      refine Bd (e := setA M1 301 i0 (putN 96 (M1.1 301 i0) (M1.1 2 i0 11) ((M1.1 2 i0 13) - x5))) (P := fun M1_1 : Mm => Wp 2 203 230 [some (.inr (.inr (2, i0))), some (.inr (.inr (3, i1))), some (.inl x2), some (.inl x3), some (.inl x4), some (.inl x5), some (.inl x6), some (.inl x7), some (.inl x8), some (.inl x9), some (.inl x10), some (.inl x11), o12, o13] [] M1_1 (rV Q)) ?_
      intro M1_1 e_M1_1
      replace h := h M1_1 e_M1_1
      refine Wp.path (k := 5) [] (C := []) (pc' := 240) (ls' := [some (.inr (.inr (2, i0))), some (.inr (.inr (3, i1))), some (.inl x2), some (.inl x3), some (.inl x4), some (.inl x5), some (.inl x6), some (.inl x7), some (.inl x8), some (.inl x9), some (.inl x10), some (.inl x11), o12, o13]) (st' := [.inl x4, .inl (M1_1.1 2 i0 11), .inr (.inr (302, i0))]) (M' := M1_1) rfl trivial ?_
      have k_7 : ∀ b : Int, b = (if x4 = 0 then 0 else 1) → Wp 2 203 248 [some (.inr (.inr (2, i0))), some (.inr (.inr (3, i1))), some (.inl x2), some (.inl x3), some (.inl x4), some (.inl x5), some (.inl x6), some (.inl x7), some (.inl x8), some (.inl x9), some (.inl x10), some (.inl x11), o12, o13] [.inl b, .inl (M1_1.1 2 i0 11), .inr (.inr (302, i0))] M1_1 (rV Q) := by
        intro b e_b
        replace h := h b e_b
        refine Wp.call (put_302) rfl rfl (by decide) ?_
        rintro v_ M_ ⟨eM_, ev_⟩
        rw [eM_, ev_]
        clear eM_ ev_ v_ M_
        refine Bd (e := setA M1_1 302 i0 (putN 96 (M1_1.1 302 i0) (M1_1.1 2 i0 11) b)) (P := fun M1_2 : Mm => Wp 2 203 251 [some (.inr (.inr (2, i0))), some (.inr (.inr (3, i1))), some (.inl x2), some (.inl x3), some (.inl x4), some (.inl x5), some (.inl x6), some (.inl x7), some (.inl x8), some (.inl x9), some (.inl x10), some (.inl x11), o12, o13] [] M1_2 (rV Q)) ?_
        intro M1_2 e_M1_2
        replace h := h M1_2 e_M1_2
        refine Wp.path (k := 9) [] (C := [inR (x3 * 48)]) (pc' := 266) (ls' := [some (.inr (.inr (2, i0))), some (.inr (.inr (3, i1))), some (.inl x2), some (.inl x3), some (.inl x4), some (.inl x5), some (.inl x6), some (.inl x7), some (.inl x8), some (.inl x9), some (.inl x10), some (.inl x11), o12, o13]) (st' := [.inl x4, .inl (x3 * 48), .inr (.inr (3, i1)), .inl (M1_2.1 2 i0 11), .inr (.inr (303, i0))]) (M' := M1_2) rfl h.1 ?_
        replace h := h.2
        have g5_0 := h.1
        replace h := h.2
        have k_5 : ∀ b_1 : Int, b_1 = (if x4 = 0 then x2 else (x2 - 1)) → Wp 2 203 276 [some (.inr (.inr (2, i0))), some (.inr (.inr (3, i1))), some (.inl x2), some (.inl x3), some (.inl x4), some (.inl x5), some (.inl x6), some (.inl x7), some (.inl x8), some (.inl x9), some (.inl x10), some (.inl x11), o12, o13] [.inl b_1, .inl (x3 * 48), .inr (.inr (3, i1)), .inl (M1_2.1 2 i0 11), .inr (.inr (303, i0))] M1_2 (rV Q) := by
          intro b_1 e_b_1
          replace h := h b_1 e_b_1
          refine Wp.path (k := 1) [] (C := [inR ((x3 * 48) + b_1)]) (pc' := 277) (ls' := [some (.inr (.inr (2, i0))), some (.inr (.inr (3, i1))), some (.inl x2), some (.inl x3), some (.inl x4), some (.inl x5), some (.inl x6), some (.inl x7), some (.inl x8), some (.inl x9), some (.inl x10), some (.inl x11), o12, o13]) (st' := [.inl ((x3 * 48) + b_1), .inr (.inr (3, i1)), .inl (M1_2.1 2 i0 11), .inr (.inr (303, i0))]) (M' := M1_2) rfl h.1 ?_
          replace h := h.2
          refine Wp.call h rfl rfl (by decide) ?_
          rintro _ M1_3 ⟨r, rfl, h⟩
          show Wp 2 203 280 [some (.inr (.inr (2, i0))), some (.inr (.inr (3, i1))), some (.inl x2), some (.inl x3), some (.inl x4), some (.inl x5), some (.inl x6), some (.inl x7), some (.inl x8), some (.inl x9), some (.inl x10), some (.inl x11), o12, o13] [.inl r, .inl (M1_2.1 2 i0 11), .inr (.inr (303, i0))] M1_3 (rV Q)
          refine Wp.call (put_303) rfl rfl (by decide) ?_
          rintro v_ M_ ⟨eM_, ev_⟩
          rw [eM_, ev_]
          clear eM_ ev_ v_ M_
          refine Bd (e := setA M1_3 303 i0 (putN 96 (M1_3.1 303 i0) (M1_2.1 2 i0 11) r)) (P := fun M1_4 : Mm => Wp 2 203 283 [some (.inr (.inr (2, i0))), some (.inr (.inr (3, i1))), some (.inl x2), some (.inl x3), some (.inl x4), some (.inl x5), some (.inl x6), some (.inl x7), some (.inl x8), some (.inl x9), some (.inl x10), some (.inl x11), o12, o13] [] M1_4 (rV Q)) ?_
          intro M1_4 e_M1_4
          replace h := h M1_4 e_M1_4
          refine Wp.path (k := 5) [] (C := []) (pc' := 293) (ls' := [some (.inr (.inr (2, i0))), some (.inr (.inr (3, i1))), some (.inl x2), some (.inl x3), some (.inl x4), some (.inl x5), some (.inl x6), some (.inl x7), some (.inl x8), some (.inl x9), some (.inl x10), some (.inl x11), o12, o13]) (st' := [.inl x9, .inl (M1_4.1 2 i0 11), .inr (.inr (304, i0))]) (M' := M1_4) rfl trivial ?_
          refine Wp.call (put_304) rfl rfl (by decide) ?_
          rintro v_ M_ ⟨eM_, ev_⟩
          rw [eM_, ev_]
          clear eM_ ev_ v_ M_
          refine Bd (e := setA M1_4 304 i0 (putN 96 (M1_4.1 304 i0) (M1_4.1 2 i0 11) x9)) (P := fun M1_5 : Mm => Wp 2 203 296 [some (.inr (.inr (2, i0))), some (.inr (.inr (3, i1))), some (.inl x2), some (.inl x3), some (.inl x4), some (.inl x5), some (.inl x6), some (.inl x7), some (.inl x8), some (.inl x9), some (.inl x10), some (.inl x11), o12, o13] [] M1_5 (rV Q)) ?_
          intro M1_5 e_M1_5
          replace h := h M1_5 e_M1_5
          refine Wp.path (k := 6) [] (C := [inR ((M1_5.1 2 i0 11) + 1)]) (pc' := 306) (ls' := [some (.inr (.inr (2, i0))), some (.inr (.inr (3, i1))), some (.inl x2), some (.inl x3), some (.inl x4), some (.inl x5), some (.inl x6), some (.inl x7), some (.inl x8), some (.inl x9), some (.inl x10), some (.inl x11), o12, o13]) (st' := []) (M' := setI M1_5 2 i0 11 ((M1_5.1 2 i0 11) + 1)) rfl h.1 ?_
          replace h := h.2
          refine Bd (P := fun M1_6 : Mm => Wp 2 203 306 [some (.inr (.inr (2, i0))), some (.inr (.inr (3, i1))), some (.inl x2), some (.inl x3), some (.inl x4), some (.inl x5), some (.inl x6), some (.inl x7), some (.inl x8), some (.inl x9), some (.inl x10), some (.inl x11), o12, o13] [] M1_6 (rV Q)) ?_
          intro M1_6 e_M1_6
          replace h := h M1_6 e_M1_6
          refine Wp.path (k := 4) [] (C := []) (pc' := 313) (ls' := [some (.inr (.inr (2, i0))), some (.inr (.inr (3, i1))), some (.inl x2), some (.inl x3), some (.inl x4), some (.inl x5), some (.inl x6), some (.inl x7), some (.inl x8), some (.inl x9), some (.inl x10), some (.inl x11), o12, o13]) (st' := [.inl x4, .inl (M1_6.1 2 i0 12), .inr (.inr (2, i0))]) (M' := M1_6) rfl trivial ?_
          have k_3 : ∀ b_2 : Int, b_2 = (if x4 = 0 then 0 else 1) → Wp 2 203 321 [some (.inr (.inr (2, i0))), some (.inr (.inr (3, i1))), some (.inl x2), some (.inl x3), some (.inl x4), some (.inl x5), some (.inl x6), some (.inl x7), some (.inl x8), some (.inl x9), some (.inl x10), some (.inl x11), o12, o13] [.inl b_2, .inl (M1_6.1 2 i0 12), .inr (.inr (2, i0))] M1_6 (rV Q) := by
            intro b_2 e_b_2
            replace h := h b_2 e_b_2
            refine Wp.path (k := 2) [] (C := [inR ((M1_6.1 2 i0 12) + b_2)]) (pc' := 325) (ls' := [some (.inr (.inr (2, i0))), some (.inr (.inr (3, i1))), some (.inl x2), some (.inl x3), some (.inl x4), some (.inl x5), some (.inl x6), some (.inl x7), some (.inl x8), some (.inl x9), some (.inl x10), some (.inl x11), o12, o13]) (st' := []) (M' := setI M1_6 2 i0 12 ((M1_6.1 2 i0 12) + b_2)) rfl h.1 ?_
            replace h := h.2
            refine Bd (P := fun M1_7 : Mm => Wp 2 203 325 [some (.inr (.inr (2, i0))), some (.inr (.inr (3, i1))), some (.inl x2), some (.inl x3), some (.inl x4), some (.inl x5), some (.inl x6), some (.inl x7), some (.inl x8), some (.inl x9), some (.inl x10), some (.inl x11), o12, o13] [] M1_7 (rV Q)) ?_
            intro M1_7 e_M1_7
            replace h := h M1_7 e_M1_7
            refine Wp.path (k := 6) [] (C := [inR ((M1_7.1 2 i0 15) + x9)]) (pc' := 336) (ls' := [some (.inr (.inr (2, i0))), some (.inr (.inr (3, i1))), some (.inl x2), some (.inl x3), some (.inl x4), some (.inl x5), some (.inl x6), some (.inl x7), some (.inl x8), some (.inl x9), some (.inl x10), some (.inl x11), o12, o13]) (st' := []) (M' := setI M1_7 2 i0 15 ((M1_7.1 2 i0 15) + x9)) rfl h.1 ?_
            replace h := h.2
            refine Bd (P := fun M1_8 : Mm => Wp 2 203 336 [some (.inr (.inr (2, i0))), some (.inr (.inr (3, i1))), some (.inl x2), some (.inl x3), some (.inl x4), some (.inl x5), some (.inl x6), some (.inl x7), some (.inl x8), some (.inl x9), some (.inl x10), some (.inl x11), o12, o13] [] M1_8 (rV Q)) ?_
            intro M1_8 e_M1_8
            replace h := h M1_8 e_M1_8
            exact Wp.ret rfl ⟨rfl, h⟩
          clear h
          rcases Decidable.em (x4 = 0) with c_4 | c_4
          · refine Wp.path (k := 1) [1] (C := [x4 = 0]) (pc' := 320) (ls' := [some (.inr (.inr (2, i0))), some (.inr (.inr (3, i1))), some (.inl x2), some (.inl x3), some (.inl x4), some (.inl x5), some (.inl x6), some (.inl x7), some (.inl x8), some (.inl x9), some (.inl x10), some (.inl x11), o12, o13]) (st' := [.inl (M1_6.1 2 i0 12), .inr (.inr (2, i0))]) (M' := M1_6) rfl c_4 ?_
            refine Wp.path (k := 1) [] (C := []) (pc' := 321) (ls' := [some (.inr (.inr (2, i0))), some (.inr (.inr (3, i1))), some (.inl x2), some (.inl x3), some (.inl x4), some (.inl x5), some (.inl x6), some (.inl x7), some (.inl x8), some (.inl x9), some (.inl x10), some (.inl x11), o12, o13]) (st' := [.inl 0, .inl (M1_6.1 2 i0 12), .inr (.inr (2, i0))]) (M' := M1_6) rfl trivial ?_
            exact k_3 _ (by rw [if_pos c_4])
          · refine Wp.path (k := 1) [0] (C := [x4 ≠ 0]) (pc' := 316) (ls' := [some (.inr (.inr (2, i0))), some (.inr (.inr (3, i1))), some (.inl x2), some (.inl x3), some (.inl x4), some (.inl x5), some (.inl x6), some (.inl x7), some (.inl x8), some (.inl x9), some (.inl x10), some (.inl x11), o12, o13]) (st' := [.inl (M1_6.1 2 i0 12), .inr (.inr (2, i0))]) (M' := M1_6) rfl c_4 ?_
            refine Wp.path (k := 2) [] (C := []) (pc' := 321) (ls' := [some (.inr (.inr (2, i0))), some (.inr (.inr (3, i1))), some (.inl x2), some (.inl x3), some (.inl x4), some (.inl x5), some (.inl x6), some (.inl x7), some (.inl x8), some (.inl x9), some (.inl x10), some (.inl x11), o12, o13]) (st' := [.inl 1, .inl (M1_6.1 2 i0 12), .inr (.inr (2, i0))]) (M' := M1_6) rfl trivial ?_
            exact k_3 _ (by rw [if_neg c_4])
        clear h
        rcases Decidable.em (x4 = 0) with c_6 | c_6
        · refine Wp.path (k := 1) [1] (C := [x4 = 0]) (pc' := 275) (ls' := [some (.inr (.inr (2, i0))), some (.inr (.inr (3, i1))), some (.inl x2), some (.inl x3), some (.inl x4), some (.inl x5), some (.inl x6), some (.inl x7), some (.inl x8), some (.inl x9), some (.inl x10), some (.inl x11), o12, o13]) (st' := [.inl (x3 * 48), .inr (.inr (3, i1)), .inl (M1_2.1 2 i0 11), .inr (.inr (303, i0))]) (M' := M1_2) rfl c_6 ?_
          refine Wp.path (k := 1) [] (C := []) (pc' := 276) (ls' := [some (.inr (.inr (2, i0))), some (.inr (.inr (3, i1))), some (.inl x2), some (.inl x3), some (.inl x4), some (.inl x5), some (.inl x6), some (.inl x7), some (.inl x8), some (.inl x9), some (.inl x10), some (.inl x11), o12, o13]) (st' := [.inl x2, .inl (x3 * 48), .inr (.inr (3, i1)), .inl (M1_2.1 2 i0 11), .inr (.inr (303, i0))]) (M' := M1_2) rfl trivial ?_
          exact k_5 _ (by rw [if_pos c_6])
        · refine Wp.path (k := 1) [0] (C := [x4 ≠ 0]) (pc' := 269) (ls' := [some (.inr (.inr (2, i0))), some (.inr (.inr (3, i1))), some (.inl x2), some (.inl x3), some (.inl x4), some (.inl x5), some (.inl x6), some (.inl x7), some (.inl x8), some (.inl x9), some (.inl x10), some (.inl x11), o12, o13]) (st' := [.inl (x3 * 48), .inr (.inr (3, i1)), .inl (M1_2.1 2 i0 11), .inr (.inr (303, i0))]) (M' := M1_2) rfl c_6 ?_
          refine Wp.path (k := 4) [] (C := [inR (x2 - 1)]) (pc' := 276) (ls' := [some (.inr (.inr (2, i0))), some (.inr (.inr (3, i1))), some (.inl x2), some (.inl x3), some (.inl x4), some (.inl x5), some (.inl x6), some (.inl x7), some (.inl x8), some (.inl x9), some (.inl x10), some (.inl x11), o12, o13]) (st' := [.inl (x2 - 1), .inl (x3 * 48), .inr (.inr (3, i1)), .inl (M1_2.1 2 i0 11), .inr (.inr (303, i0))]) (M' := M1_2) rfl (g5_0 c_6) ?_
          exact k_5 _ (by rw [if_neg c_6])
      clear h
      rcases Decidable.em (x4 = 0) with c_8 | c_8
      · refine Wp.path (k := 1) [1] (C := [x4 = 0]) (pc' := 247) (ls' := [some (.inr (.inr (2, i0))), some (.inr (.inr (3, i1))), some (.inl x2), some (.inl x3), some (.inl x4), some (.inl x5), some (.inl x6), some (.inl x7), some (.inl x8), some (.inl x9), some (.inl x10), some (.inl x11), o12, o13]) (st' := [.inl (M1_1.1 2 i0 11), .inr (.inr (302, i0))]) (M' := M1_1) rfl c_8 ?_
        refine Wp.path (k := 1) [] (C := []) (pc' := 248) (ls' := [some (.inr (.inr (2, i0))), some (.inr (.inr (3, i1))), some (.inl x2), some (.inl x3), some (.inl x4), some (.inl x5), some (.inl x6), some (.inl x7), some (.inl x8), some (.inl x9), some (.inl x10), some (.inl x11), o12, o13]) (st' := [.inl 0, .inl (M1_1.1 2 i0 11), .inr (.inr (302, i0))]) (M' := M1_1) rfl trivial ?_
        exact k_7 _ (by rw [if_pos c_8])
      · refine Wp.path (k := 1) [0] (C := [x4 ≠ 0]) (pc' := 243) (ls' := [some (.inr (.inr (2, i0))), some (.inr (.inr (3, i1))), some (.inl x2), some (.inl x3), some (.inl x4), some (.inl x5), some (.inl x6), some (.inl x7), some (.inl x8), some (.inl x9), some (.inl x10), some (.inl x11), o12, o13]) (st' := [.inl (M1_1.1 2 i0 11), .inr (.inr (302, i0))]) (M' := M1_1) rfl c_8 ?_
        refine Wp.path (k := 2) [] (C := []) (pc' := 248) (ls' := [some (.inr (.inr (2, i0))), some (.inr (.inr (3, i1))), some (.inl x2), some (.inl x3), some (.inl x4), some (.inl x5), some (.inl x6), some (.inl x7), some (.inl x8), some (.inl x9), some (.inl x10), some (.inl x11), o12, o13]) (st' := [.inl 1, .inl (M1_1.1 2 i0 11), .inr (.inr (302, i0))]) (M' := M1_1) rfl trivial ?_
        exact k_7 _ (by rw [if_neg c_8])
    · replace h := h.2 c_2
      refine Wp.path (k := 1) [0] (C := [x10 ≠ 0]) (pc' := 62) (ls' := [some (.inr (.inr (2, i0))), some (.inr (.inr (3, i1))), some (.inl x2), some (.inl x3), some (.inl x4), some (.inl x5), some (.inl x6), some (.inl x7), some (.inl x8), some (.inl x9), some (.inl x10), some (.inl x11), o12, o13]) (st' := []) (M' := M) rfl c_2 ?_
      refine Wp.path (k := 4) [] (C := []) (pc' := 69) (ls' := [some (.inr (.inr (2, i0))), some (.inr (.inr (3, i1))), some (.inl x2), some (.inl x3), some (.inl x4), some (.inl x5), some (.inl x6), some (.inl x7), some (.inl x8), some (.inl x9), some (.inl x10), some (.inl x11), o12, o13]) (st' := [.inl x6, .inl x8, .inl x7, .inr (.inr (2, i0))]) (M' := M) rfl trivial ?_
      refine Wp.call h rfl rfl (by decide) ?_
      rintro _ M1_9 ⟨r_1, rfl, h⟩
      show Wp 2 203 72 [some (.inr (.inr (2, i0))), some (.inr (.inr (3, i1))), some (.inl x2), some (.inl x3), some (.inl x4), some (.inl x5), some (.inl x6), some (.inl x7), some (.inl x8), some (.inl x9), some (.inl x10), some (.inl x11), o12, o13] [.inl r_1] M1_9 (rV Q)
      refine Wp.path (k := 6) [] (C := []) (pc' := 83) (ls' := [some (.inr (.inr (2, i0))), some (.inr (.inr (3, i1))), some (.inl x2), some (.inl x3), some (.inl x4), some (.inl x5), some (.inl x6), some (.inl x7), some (.inl x8), some (.inl x9), some (.inl x10), some (.inl x11), some (.inl r_1), o13]) (st' := [.inl r_1, .inl x6, .inl x8, .inl x7, .inr (.inr (2, i0))]) (M' := M1_9) rfl trivial ?_
      refine Wp.call h rfl rfl (by decide) ?_
      rintro _ M1_10 ⟨rfl, h⟩
      show Wp 2 203 86 [some (.inr (.inr (2, i0))), some (.inr (.inr (3, i1))), some (.inl x2), some (.inl x3), some (.inl x4), some (.inl x5), some (.inl x6), some (.inl x7), some (.inl x8), some (.inl x9), some (.inl x10), some (.inl x11), some (.inl r_1), o13] [] M1_10 (rV Q)
      refine Wp.path (k := 4) [] (C := [inR (x9 + r_1)]) (pc' := 93) (ls' := [some (.inr (.inr (2, i0))), some (.inr (.inr (3, i1))), some (.inl x2), some (.inl x3), some (.inl x4), some (.inl x5), some (.inl x6), some (.inl x7), some (.inl x8), some (.inl (x9 + r_1)), some (.inl x10), some (.inl x11), some (.inl r_1), o13]) (st' := []) (M' := M1_10) rfl h.1 ?_
      replace h := h.2
      refine Bd (P := fun x9_1 : Int => Wp 2 203 93 [some (.inr (.inr (2, i0))), some (.inr (.inr (3, i1))), some (.inl x2), some (.inl x3), some (.inl x4), some (.inl x5), some (.inl x6), some (.inl x7), some (.inl x8), some (.inl x9_1), some (.inl x10), some (.inl x11), some (.inl r_1), o13] [] M1_10 (rV Q)) ?_
      intro x9_1 e_x9_1
      replace h := h x9_1 e_x9_1
      refine Wp.path (k := 3) [] (C := []) (pc' := 99) (ls' := [some (.inr (.inr (2, i0))), some (.inr (.inr (3, i1))), some (.inl x2), some (.inl x3), some (.inl x4), some (.inl x5), some (.inl x6), some (.inl x7), some (.inl x8), some (.inl x9_1), some (.inl x10), some (.inl x11), some (.inl r_1), o13]) (st' := [.inl x6, .inl r_1, .inl x7]) (M' := M1_10) rfl trivial ?_
      refine Wp.call (e939) rfl rfl (by decide) ?_
      rintro v_ M_ ⟨eM_, ev_⟩
      rw [eM_, ev_]
      clear eM_ ev_ v_ M_
      show Wp 2 203 102 [some (.inr (.inr (2, i0))), some (.inr (.inr (3, i1))), some (.inl x2), some (.inl x3), some (.inl x4), some (.inl x5), some (.inl x6), some (.inl x7), some (.inl x8), some (.inl x9_1), some (.inl x10), some (.inl x11), some (.inl r_1), o13] [.inl (stepXV x6), .inl r_1, .inl x7] M1_10 (rV Q)
      refine Wp.path (k := 3) [] (C := [inR (r_1 * (stepXV x6)), inR (x7 + (r_1 * (stepXV x6)))]) (pc' := 106) (ls' := [some (.inr (.inr (2, i0))), some (.inr (.inr (3, i1))), some (.inl x2), some (.inl x3), some (.inl x4), some (.inl x5), some (.inl x6), some (.inl (x7 + (r_1 * (stepXV x6)))), some (.inl x8), some (.inl x9_1), some (.inl x10), some (.inl x11), some (.inl r_1), o13]) (st' := []) (M' := M1_10) rfl ⟨h.1.1, h.1.2⟩ ?_
      replace h := h.2
      refine Bd (P := fun x7_1 : Int => Wp 2 203 106 [some (.inr (.inr (2, i0))), some (.inr (.inr (3, i1))), some (.inl x2), some (.inl x3), some (.inl x4), some (.inl x5), some (.inl x6), some (.inl x7_1), some (.inl x8), some (.inl x9_1), some (.inl x10), some (.inl x11), some (.inl r_1), o13] [] M1_10 (rV Q)) ?_
      intro x7_1 e_x7_1
      replace h := h x7_1 e_x7_1
      refine Wp.path (k := 3) [] (C := []) (pc' := 112) (ls' := [some (.inr (.inr (2, i0))), some (.inr (.inr (3, i1))), some (.inl x2), some (.inl x3), some (.inl x4), some (.inl x5), some (.inl x6), some (.inl x7_1), some (.inl x8), some (.inl x9_1), some (.inl x10), some (.inl x11), some (.inl r_1), o13]) (st' := [.inl x6, .inl r_1, .inl x8]) (M' := M1_10) rfl trivial ?_
      refine Wp.call (e940) rfl rfl (by decide) ?_
      rintro v_ M_ ⟨eM_, ev_⟩
      rw [eM_, ev_]
      clear eM_ ev_ v_ M_
      show Wp 2 203 115 [some (.inr (.inr (2, i0))), some (.inr (.inr (3, i1))), some (.inl x2), some (.inl x3), some (.inl x4), some (.inl x5), some (.inl x6), some (.inl x7_1), some (.inl x8), some (.inl x9_1), some (.inl x10), some (.inl x11), some (.inl r_1), o13] [.inl (stepYV x6), .inl r_1, .inl x8] M1_10 (rV Q)
      refine Wp.path (k := 3) [] (C := [inR (r_1 * (stepYV x6)), inR (x8 + (r_1 * (stepYV x6)))]) (pc' := 119) (ls' := [some (.inr (.inr (2, i0))), some (.inr (.inr (3, i1))), some (.inl x2), some (.inl x3), some (.inl x4), some (.inl x5), some (.inl x6), some (.inl x7_1), some (.inl (x8 + (r_1 * (stepYV x6)))), some (.inl x9_1), some (.inl x10), some (.inl x11), some (.inl r_1), o13]) (st' := []) (M' := M1_10) rfl ⟨h.1.1, h.1.2⟩ ?_
      replace h := h.2
      refine Bd (P := fun x8_1 : Int => Wp 2 203 119 [some (.inr (.inr (2, i0))), some (.inr (.inr (3, i1))), some (.inl x2), some (.inl x3), some (.inl x4), some (.inl x5), some (.inl x6), some (.inl x7_1), some (.inl x8_1), some (.inl x9_1), some (.inl x10), some (.inl x11), some (.inl r_1), o13] [] M1_10 (rV Q)) ?_
      intro x8_1 e_x8_1
      replace h := h x8_1 e_x8_1
      refine Wp.path (k := 3) [] (C := []) (pc' := 124) (ls' := [some (.inr (.inr (2, i0))), some (.inr (.inr (3, i1))), some (.inl x2), some (.inl x3), some (.inl x4), some (.inl x5), some (.inl x6), some (.inl x7_1), some (.inl x8_1), some (.inl x9_1), some (.inl x10), some (.inl x11), some (.inl r_1), o13]) (st' := [.inl x8_1, .inl x7_1, .inr (.inr (3, i1))]) (M' := M1_10) rfl trivial ?_
      refine Wp.call (e207 h.1.1 h.1.2.1 h.1.2.2.1 h.1.2.2.2) rfl rfl (by decide) ?_
      replace h := h.2
      rintro v_ M_ ⟨eM_, ev_⟩
      rw [eM_, ev_]
      clear eM_ ev_ v_ M_
      show Wp 2 203 127 [some (.inr (.inr (2, i0))), some (.inr (.inr (3, i1))), some (.inl x2), some (.inl x3), some (.inl x4), some (.inl x5), some (.inl x6), some (.inl x7_1), some (.inl x8_1), some (.inl x9_1), some (.inl x10), some (.inl x11), some (.inl r_1), o13] [.inl (arV (M1_10.2 401 i1) x7_1 x8_1)] M1_10 (rV Q)
      refine Wp.path (k := 1) [] (C := []) (pc' := 128) (ls' := [some (.inr (.inr (2, i0))), some (.inr (.inr (3, i1))), some (.inl x2), some (.inl x3), some (.inl x4), some (.inl x5), some (.inl x6), some (.inl x7_1), some (.inl x8_1), some (.inl x9_1), some (.inl x10), some (.inl x11), some (.inl r_1), o13]) (st' := [.inl 1, .inl (arV (M1_10.2 401 i1) x7_1 x8_1)]) (M' := M1_10) rfl trivial ?_
      have k_16 : ∀ b_3 : Int, b_3 = (if arV (M1_10.2 401 i1) x7_1 x8_1 ≠ 1 then 0 else 1) → Wp 2 203 136 [some (.inr (.inr (2, i0))), some (.inr (.inr (3, i1))), some (.inl x2), some (.inl x3), some (.inl x4), some (.inl x5), some (.inl x6), some (.inl x7_1), some (.inl x8_1), some (.inl x9_1), some (.inl x10), some (.inl x11), some (.inl r_1), o13] [.inl b_3] M1_10 (rV Q) := by
        intro b_3 e_b_3
        replace h := h b_3 e_b_3
        refine Wp.path (k := 5) [] (C := []) (pc' := 145) (ls' := [some (.inr (.inr (2, i0))), some (.inr (.inr (3, i1))), some (.inl x2), some (.inl x3), some (.inl x4), some (.inl x5), some (.inl x6), some (.inl x7_1), some (.inl x8_1), some (.inl x9_1), some (.inl x10), some (.inl x11), some (.inl r_1), some (.inl b_3)]) (st' := [.inl b_3, .inl (M1_10.1 2 i0 14), .inr (.inr (2, i0))]) (M' := M1_10) rfl trivial ?_
        have k_14 : ∀ b_4 : Int, b_4 = (if b_3 = 0 then 0 else 1) → Wp 2 203 153 [some (.inr (.inr (2, i0))), some (.inr (.inr (3, i1))), some (.inl x2), some (.inl x3), some (.inl x4), some (.inl x5), some (.inl x6), some (.inl x7_1), some (.inl x8_1), some (.inl x9_1), some (.inl x10), some (.inl x11), some (.inl r_1), some (.inl b_3)] [.inl b_4, .inl (M1_10.1 2 i0 14), .inr (.inr (2, i0))] M1_10 (rV Q) := by
          intro b_4 e_b_4
          replace h := h b_4 e_b_4
          refine Wp.path (k := 2) [] (C := [inR ((M1_10.1 2 i0 14) + b_4)]) (pc' := 157) (ls' := [some (.inr (.inr (2, i0))), some (.inr (.inr (3, i1))), some (.inl x2), some (.inl x3), some (.inl x4), some (.inl x5), some (.inl x6), some (.inl x7_1), some (.inl x8_1), some (.inl x9_1), some (.inl x10), some (.inl x11), some (.inl r_1), some (.inl b_3)]) (st' := []) (M' := setI M1_10 2 i0 14 ((M1_10.1 2 i0 14) + b_4)) rfl h.1 ?_
          replace h := h.2
          refine Bd (P := fun M1_11 : Mm => Wp 2 203 157 [some (.inr (.inr (2, i0))), some (.inr (.inr (3, i1))), some (.inl x2), some (.inl x3), some (.inl x4), some (.inl x5), some (.inl x6), some (.inl x7_1), some (.inl x8_1), some (.inl x9_1), some (.inl x10), some (.inl x11), some (.inl r_1), some (.inl b_3)] [] M1_11 (rV Q)) ?_
          intro M1_11 e_M1_11
          replace h := h M1_11 e_M1_11
          refine Wp.path (k := 2) [] (C := []) (pc' := 161) (ls' := [some (.inr (.inr (2, i0))), some (.inr (.inr (3, i1))), some (.inl x2), some (.inl x3), some (.inl x4), some (.inl x5), some (.inl x6), some (.inl x7_1), some (.inl x8_1), some (.inl x9_1), some (.inl x10), some (.inl x11), some (.inl r_1), some (.inl b_3)]) (st' := [.inl b_3, .inl x6]) (M' := M1_11) rfl trivial ?_
          have k_12 : ∀ b_5 : Int, b_5 = (if b_3 = 0 then 3 else 1) → Wp 2 203 169 [some (.inr (.inr (2, i0))), some (.inr (.inr (3, i1))), some (.inl x2), some (.inl x3), some (.inl x4), some (.inl x5), some (.inl x6), some (.inl x7_1), some (.inl x8_1), some (.inl x9_1), some (.inl x10), some (.inl x11), some (.inl r_1), some (.inl b_3)] [.inl b_5, .inl x6] M1_11 (rV Q) := by
            intro b_5 e_b_5
            replace h := h b_5 e_b_5
            refine Wp.path (k := 4) [] (C := [inR (x6 + b_5)]) (pc' := 174) (ls' := [some (.inr (.inr (2, i0))), some (.inr (.inr (3, i1))), some (.inl x2), some (.inl x3), some (.inl x4), some (.inl x5), some (.inl (ian (x6 + b_5) 3)), some (.inl x7_1), some (.inl x8_1), some (.inl x9_1), some (.inl x10), some (.inl x11), some (.inl r_1), some (.inl b_3)]) (st' := []) (M' := M1_11) rfl h.1 ?_
            replace h := h.2
            refine Bd (P := fun x6_1 : Int => Wp 2 203 174 [some (.inr (.inr (2, i0))), some (.inr (.inr (3, i1))), some (.inl x2), some (.inl x3), some (.inl x4), some (.inl x5), some (.inl x6_1), some (.inl x7_1), some (.inl x8_1), some (.inl x9_1), some (.inl x10), some (.inl x11), some (.inl r_1), some (.inl b_3)] [] M1_11 (rV Q)) ?_
            intro x6_1 e_x6_1
            replace h := h x6_1 e_x6_1
            refine Wp.path (k := 2) [] (C := []) (pc' := 177) (ls' := [some (.inr (.inr (2, i0))), some (.inr (.inr (3, i1))), some (.inl x2), some (.inl x3), some (.inl x4), some (.inl x5), some (.inl x6_1), some (.inl x7_1), some (.inl x8_1), some (.inl x9_1), some (.inl x10), some (.inl x11), some (.inl r_1), some (.inl b_3)]) (st' := [.inl x2, .inl x7_1]) (M' := M1_11) rfl trivial ?_
            have k_9 : ∀ b_6 : Int, b_6 = (if x7_1 ≠ x2 then 1 else (if x8_1 = x3 then 0 else 1)) → Wp 2 203 191 [some (.inr (.inr (2, i0))), some (.inr (.inr (3, i1))), some (.inl x2), some (.inl x3), some (.inl x4), some (.inl x5), some (.inl x6_1), some (.inl x7_1), some (.inl x8_1), some (.inl x9_1), some (.inl x10), some (.inl x11), some (.inl r_1), some (.inl b_3)] [.inl b_6] M1_11 (rV Q) := by
              intro b_6 e_b_6
              replace h := h b_6 e_b_6
              refine Wp.path (k := 3) [] (C := [inR (x11 + 1)]) (pc' := 49) (ls' := [some (.inr (.inr (2, i0))), some (.inr (.inr (3, i1))), some (.inl x2), some (.inl x3), some (.inl x4), some (.inl x5), some (.inl x6_1), some (.inl x7_1), some (.inl x8_1), some (.inl x9_1), some (.inl b_6), some (.inl (x11 + 1)), some (.inl r_1), some (.inl b_3)]) (st' := []) (M' := M1_11) rfl h.1 ?_
              replace h := h.2
              exact h _ _
            clear h
            rcases Decidable.em (x7_1 = x2) with c_10 | c_10
            · refine Wp.path (k := 1) [0] (C := [x7_1 = x2]) (pc' := 180) (ls' := [some (.inr (.inr (2, i0))), some (.inr (.inr (3, i1))), some (.inl x2), some (.inl x3), some (.inl x4), some (.inl x5), some (.inl x6_1), some (.inl x7_1), some (.inl x8_1), some (.inl x9_1), some (.inl x10), some (.inl x11), some (.inl r_1), some (.inl b_3)]) (st' := []) (M' := M1_11) rfl c_10 ?_
              refine Wp.path (k := 2) [] (C := []) (pc' := 183) (ls' := [some (.inr (.inr (2, i0))), some (.inr (.inr (3, i1))), some (.inl x2), some (.inl x3), some (.inl x4), some (.inl x5), some (.inl x6_1), some (.inl x7_1), some (.inl x8_1), some (.inl x9_1), some (.inl x10), some (.inl x11), some (.inl r_1), some (.inl b_3)]) (st' := [.inl x3, .inl x8_1]) (M' := M1_11) rfl trivial ?_
              rcases Decidable.em (x8_1 = x3) with c_11 | c_11
              · refine Wp.path (k := 1) [1] (C := [x8_1 = x3]) (pc' := 190) (ls' := [some (.inr (.inr (2, i0))), some (.inr (.inr (3, i1))), some (.inl x2), some (.inl x3), some (.inl x4), some (.inl x5), some (.inl x6_1), some (.inl x7_1), some (.inl x8_1), some (.inl x9_1), some (.inl x10), some (.inl x11), some (.inl r_1), some (.inl b_3)]) (st' := []) (M' := M1_11) rfl c_11 ?_
                refine Wp.path (k := 1) [] (C := []) (pc' := 191) (ls' := [some (.inr (.inr (2, i0))), some (.inr (.inr (3, i1))), some (.inl x2), some (.inl x3), some (.inl x4), some (.inl x5), some (.inl x6_1), some (.inl x7_1), some (.inl x8_1), some (.inl x9_1), some (.inl x10), some (.inl x11), some (.inl r_1), some (.inl b_3)]) (st' := [.inl 0]) (M' := M1_11) rfl trivial ?_
                exact k_9 _ (by rw [if_neg (not_not_intro c_10), if_pos c_11])
              · refine Wp.path (k := 1) [0] (C := [x8_1 ≠ x3]) (pc' := 186) (ls' := [some (.inr (.inr (2, i0))), some (.inr (.inr (3, i1))), some (.inl x2), some (.inl x3), some (.inl x4), some (.inl x5), some (.inl x6_1), some (.inl x7_1), some (.inl x8_1), some (.inl x9_1), some (.inl x10), some (.inl x11), some (.inl r_1), some (.inl b_3)]) (st' := []) (M' := M1_11) rfl c_11 ?_
                refine Wp.path (k := 2) [] (C := []) (pc' := 191) (ls' := [some (.inr (.inr (2, i0))), some (.inr (.inr (3, i1))), some (.inl x2), some (.inl x3), some (.inl x4), some (.inl x5), some (.inl x6_1), some (.inl x7_1), some (.inl x8_1), some (.inl x9_1), some (.inl x10), some (.inl x11), some (.inl r_1), some (.inl b_3)]) (st' := [.inl 1]) (M' := M1_11) rfl trivial ?_
                exact k_9 _ (by rw [if_neg (not_not_intro c_10), if_neg c_11])
            · refine Wp.path (k := 1) [1] (C := [x7_1 ≠ x2]) (pc' := 186) (ls' := [some (.inr (.inr (2, i0))), some (.inr (.inr (3, i1))), some (.inl x2), some (.inl x3), some (.inl x4), some (.inl x5), some (.inl x6_1), some (.inl x7_1), some (.inl x8_1), some (.inl x9_1), some (.inl x10), some (.inl x11), some (.inl r_1), some (.inl b_3)]) (st' := []) (M' := M1_11) rfl c_10 ?_
              refine Wp.path (k := 2) [] (C := []) (pc' := 191) (ls' := [some (.inr (.inr (2, i0))), some (.inr (.inr (3, i1))), some (.inl x2), some (.inl x3), some (.inl x4), some (.inl x5), some (.inl x6_1), some (.inl x7_1), some (.inl x8_1), some (.inl x9_1), some (.inl x10), some (.inl x11), some (.inl r_1), some (.inl b_3)]) (st' := [.inl 1]) (M' := M1_11) rfl trivial ?_
              exact k_9 _ (by rw [if_pos c_10])
          clear h
          rcases Decidable.em (b_3 = 0) with c_13 | c_13
          · refine Wp.path (k := 1) [1] (C := [b_3 = 0]) (pc' := 168) (ls' := [some (.inr (.inr (2, i0))), some (.inr (.inr (3, i1))), some (.inl x2), some (.inl x3), some (.inl x4), some (.inl x5), some (.inl x6), some (.inl x7_1), some (.inl x8_1), some (.inl x9_1), some (.inl x10), some (.inl x11), some (.inl r_1), some (.inl b_3)]) (st' := [.inl x6]) (M' := M1_11) rfl c_13 ?_
            refine Wp.path (k := 1) [] (C := []) (pc' := 169) (ls' := [some (.inr (.inr (2, i0))), some (.inr (.inr (3, i1))), some (.inl x2), some (.inl x3), some (.inl x4), some (.inl x5), some (.inl x6), some (.inl x7_1), some (.inl x8_1), some (.inl x9_1), some (.inl x10), some (.inl x11), some (.inl r_1), some (.inl b_3)]) (st' := [.inl 3, .inl x6]) (M' := M1_11) rfl trivial ?_
            exact k_12 _ (by rw [if_pos c_13])
          · refine Wp.path (k := 1) [0] (C := [b_3 ≠ 0]) (pc' := 164) (ls' := [some (.inr (.inr (2, i0))), some (.inr (.inr (3, i1))), some (.inl x2), some (.inl x3), some (.inl x4), some (.inl x5), some (.inl x6), some (.inl x7_1), some (.inl x8_1), some (.inl x9_1), some (.inl x10), some (.inl x11), some (.inl r_1), some (.inl b_3)]) (st' := [.inl x6]) (M' := M1_11) rfl c_13 ?_
            refine Wp.path (k := 2) [] (C := []) (pc' := 169) (ls' := [some (.inr (.inr (2, i0))), some (.inr (.inr (3, i1))), some (.inl x2), some (.inl x3), some (.inl x4), some (.inl x5), some (.inl x6), some (.inl x7_1), some (.inl x8_1), some (.inl x9_1), some (.inl x10), some (.inl x11), some (.inl r_1), some (.inl b_3)]) (st' := [.inl 1, .inl x6]) (M' := M1_11) rfl trivial ?_
            exact k_12 _ (by rw [if_neg c_13])
        clear h
        rcases Decidable.em (b_3 = 0) with c_15 | c_15
        · refine Wp.path (k := 1) [1] (C := [b_3 = 0]) (pc' := 152) (ls' := [some (.inr (.inr (2, i0))), some (.inr (.inr (3, i1))), some (.inl x2), some (.inl x3), some (.inl x4), some (.inl x5), some (.inl x6), some (.inl x7_1), some (.inl x8_1), some (.inl x9_1), some (.inl x10), some (.inl x11), some (.inl r_1), some (.inl b_3)]) (st' := [.inl (M1_10.1 2 i0 14), .inr (.inr (2, i0))]) (M' := M1_10) rfl c_15 ?_
          refine Wp.path (k := 1) [] (C := []) (pc' := 153) (ls' := [some (.inr (.inr (2, i0))), some (.inr (.inr (3, i1))), some (.inl x2), some (.inl x3), some (.inl x4), some (.inl x5), some (.inl x6), some (.inl x7_1), some (.inl x8_1), some (.inl x9_1), some (.inl x10), some (.inl x11), some (.inl r_1), some (.inl b_3)]) (st' := [.inl 0, .inl (M1_10.1 2 i0 14), .inr (.inr (2, i0))]) (M' := M1_10) rfl trivial ?_
          exact k_14 _ (by rw [if_pos c_15])
        · refine Wp.path (k := 1) [0] (C := [b_3 ≠ 0]) (pc' := 148) (ls' := [some (.inr (.inr (2, i0))), some (.inr (.inr (3, i1))), some (.inl x2), some (.inl x3), some (.inl x4), some (.inl x5), some (.inl x6), some (.inl x7_1), some (.inl x8_1), some (.inl x9_1), some (.inl x10), some (.inl x11), some (.inl r_1), some (.inl b_3)]) (st' := [.inl (M1_10.1 2 i0 14), .inr (.inr (2, i0))]) (M' := M1_10) rfl c_15 ?_
          refine Wp.path (k := 2) [] (C := []) (pc' := 153) (ls' := [some (.inr (.inr (2, i0))), some (.inr (.inr (3, i1))), some (.inl x2), some (.inl x3), some (.inl x4), some (.inl x5), some (.inl x6), some (.inl x7_1), some (.inl x8_1), some (.inl x9_1), some (.inl x10), some (.inl x11), some (.inl r_1), some (.inl b_3)]) (st' := [.inl 1, .inl (M1_10.1 2 i0 14), .inr (.inr (2, i0))]) (M' := M1_10) rfl trivial ?_
          exact k_14 _ (by rw [if_neg c_15])
      clear h
      rcases Decidable.em (arV (M1_10.2 401 i1) x7_1 x8_1 = 1) with c_17 | c_17
      · refine Wp.path (k := 1) [0] (C := [arV (M1_10.2 401 i1) x7_1 x8_1 = 1]) (pc' := 131) (ls' := [some (.inr (.inr (2, i0))), some (.inr (.inr (3, i1))), some (.inl x2), some (.inl x3), some (.inl x4), some (.inl x5), some (.inl x6), some (.inl x7_1), some (.inl x8_1), some (.inl x9_1), some (.inl x10), some (.inl x11), some (.inl r_1), o13]) (st' := []) (M' := M1_10) rfl c_17 ?_
        refine Wp.path (k := 2) [] (C := []) (pc' := 136) (ls' := [some (.inr (.inr (2, i0))), some (.inr (.inr (3, i1))), some (.inl x2), some (.inl x3), some (.inl x4), some (.inl x5), some (.inl x6), some (.inl x7_1), some (.inl x8_1), some (.inl x9_1), some (.inl x10), some (.inl x11), some (.inl r_1), o13]) (st' := [.inl 1]) (M' := M1_10) rfl trivial ?_
        exact k_16 _ (by rw [if_neg (not_not_intro c_17)])
      · refine Wp.path (k := 1) [1] (C := [arV (M1_10.2 401 i1) x7_1 x8_1 ≠ 1]) (pc' := 135) (ls' := [some (.inr (.inr (2, i0))), some (.inr (.inr (3, i1))), some (.inl x2), some (.inl x3), some (.inl x4), some (.inl x5), some (.inl x6), some (.inl x7_1), some (.inl x8_1), some (.inl x9_1), some (.inl x10), some (.inl x11), some (.inl r_1), o13]) (st' := []) (M' := M1_10) rfl c_17 ?_
        refine Wp.path (k := 1) [] (C := []) (pc' := 136) (ls' := [some (.inr (.inr (2, i0))), some (.inr (.inr (3, i1))), some (.inl x2), some (.inl x3), some (.inl x4), some (.inl x5), some (.inl x6), some (.inl x7_1), some (.inl x8_1), some (.inl x9_1), some (.inl x10), some (.inl x11), some (.inl r_1), o13]) (st' := [.inl 0]) (M' := M1_10) rfl trivial ?_
        exact k_16 _ (by rw [if_pos c_17])
  · replace h := h.1 c_1
    refine Wp.path (k := 1) [1] (C := [340 ≤ x11]) (pc' := 199) (ls' := [some (.inr (.inr (2, i0))), some (.inr (.inr (3, i1))), some (.inl x2), some (.inl x3), some (.inl x4), some (.inl x5), some (.inl x6), some (.inl x7), some (.inl x8), some (.inl x9), some (.inl x10), some (.inl x11), o12, o13]) (st' := []) (M' := M) rfl c_1 ?_
    refine Wp.path (k := 5) [] (C := []) (pc' := 209) (ls' := [some (.inr (.inr (2, i0))), some (.inr (.inr (3, i1))), some (.inl x2), some (.inl x3), some (.inl x4), some (.inl x5), some (.inl x6), some (.inl x7), some (.inl x8), some (.inl x9), some (.inl x10), some (.inl x11), o12, o13]) (st' := [.inl x5, .inl (M.1 2 i0 11), .inr (.inr (300, i0))]) (M' := M) rfl trivial ?_
    refine Wp.call (put_300) rfl rfl (by decide) ?_
    rintro v_ M_ ⟨eM_, ev_⟩
    rw [eM_, ev_]
    clear eM_ ev_ v_ M_
    refine Bd (e := setA M 300 i0 (putN 96 (M.1 300 i0) (M.1 2 i0 11) x5)) (P := fun M1_12 : Mm => Wp 2 203 212 [some (.inr (.inr (2, i0))), some (.inr (.inr (3, i1))), some (.inl x2), some (.inl x3), some (.inl x4), some (.inl x5), some (.inl x6), some (.inl x7), some (.inl x8), some (.inl x9), some (.inl x10), some (.inl x11), o12, o13] [] M1_12 (rV Q)) ?_
    intro M1_12 e_M1_12
    replace h := h M1_12 e_M1_12
    refine Wp.path (k := 8) [] (C := [inR ((M1_12.1 2 i0 13) - x5)]) (pc' := 227) (ls' := [some (.inr (.inr (2, i0))), some (.inr (.inr (3, i1))), some (.inl x2), some (.inl x3), some (.inl x4), some (.inl x5), some (.inl x6), some (.inl x7), some (.inl x8), some (.inl x9), some (.inl x10), some (.inl x11), o12, o13]) (st' := [.inl ((M1_12.1 2 i0 13) - x5), .inl (M1_12.1 2 i0 11), .inr (.inr (301, i0))]) (M' := M1_12) rfl h.1 ?_
    replace h := h.2
    refine Wp.call (put_301) rfl rfl (by decide) ?_
    rintro v_ M_ ⟨eM_, ev_⟩
    rw [eM_, ev_]
    clear eM_ ev_ v_ M_
    refine Bd (e := setA M1_12 301 i0 (putN 96 (M1_12.1 301 i0) (M1_12.1 2 i0 11) ((M1_12.1 2 i0 13) - x5))) (P := fun M1_13 : Mm => Wp 2 203 230 [some (.inr (.inr (2, i0))), some (.inr (.inr (3, i1))), some (.inl x2), some (.inl x3), some (.inl x4), some (.inl x5), some (.inl x6), some (.inl x7), some (.inl x8), some (.inl x9), some (.inl x10), some (.inl x11), o12, o13] [] M1_13 (rV Q)) ?_
    intro M1_13 e_M1_13
    replace h := h M1_13 e_M1_13
    refine Wp.path (k := 5) [] (C := []) (pc' := 240) (ls' := [some (.inr (.inr (2, i0))), some (.inr (.inr (3, i1))), some (.inl x2), some (.inl x3), some (.inl x4), some (.inl x5), some (.inl x6), some (.inl x7), some (.inl x8), some (.inl x9), some (.inl x10), some (.inl x11), o12, o13]) (st' := [.inl x4, .inl (M1_13.1 2 i0 11), .inr (.inr (302, i0))]) (M' := M1_13) rfl trivial ?_
    have k_22 : ∀ b_7 : Int, b_7 = (if x4 = 0 then 0 else 1) → Wp 2 203 248 [some (.inr (.inr (2, i0))), some (.inr (.inr (3, i1))), some (.inl x2), some (.inl x3), some (.inl x4), some (.inl x5), some (.inl x6), some (.inl x7), some (.inl x8), some (.inl x9), some (.inl x10), some (.inl x11), o12, o13] [.inl b_7, .inl (M1_13.1 2 i0 11), .inr (.inr (302, i0))] M1_13 (rV Q) := by
      intro b_7 e_b_7
      replace h := h b_7 e_b_7
      refine Wp.call (put_302) rfl rfl (by decide) ?_
      rintro v_ M_ ⟨eM_, ev_⟩
      rw [eM_, ev_]
      clear eM_ ev_ v_ M_
      refine Bd (e := setA M1_13 302 i0 (putN 96 (M1_13.1 302 i0) (M1_13.1 2 i0 11) b_7)) (P := fun M1_14 : Mm => Wp 2 203 251 [some (.inr (.inr (2, i0))), some (.inr (.inr (3, i1))), some (.inl x2), some (.inl x3), some (.inl x4), some (.inl x5), some (.inl x6), some (.inl x7), some (.inl x8), some (.inl x9), some (.inl x10), some (.inl x11), o12, o13] [] M1_14 (rV Q)) ?_
      intro M1_14 e_M1_14
      replace h := h M1_14 e_M1_14
      refine Wp.path (k := 9) [] (C := [inR (x3 * 48)]) (pc' := 266) (ls' := [some (.inr (.inr (2, i0))), some (.inr (.inr (3, i1))), some (.inl x2), some (.inl x3), some (.inl x4), some (.inl x5), some (.inl x6), some (.inl x7), some (.inl x8), some (.inl x9), some (.inl x10), some (.inl x11), o12, o13]) (st' := [.inl x4, .inl (x3 * 48), .inr (.inr (3, i1)), .inl (M1_14.1 2 i0 11), .inr (.inr (303, i0))]) (M' := M1_14) rfl h.1 ?_
      replace h := h.2
      have g20_0 := h.1
      replace h := h.2
      have k_20 : ∀ b_8 : Int, b_8 = (if x4 = 0 then x2 else (x2 - 1)) → Wp 2 203 276 [some (.inr (.inr (2, i0))), some (.inr (.inr (3, i1))), some (.inl x2), some (.inl x3), some (.inl x4), some (.inl x5), some (.inl x6), some (.inl x7), some (.inl x8), some (.inl x9), some (.inl x10), some (.inl x11), o12, o13] [.inl b_8, .inl (x3 * 48), .inr (.inr (3, i1)), .inl (M1_14.1 2 i0 11), .inr (.inr (303, i0))] M1_14 (rV Q) := by
        intro b_8 e_b_8
        replace h := h b_8 e_b_8
        refine Wp.path (k := 1) [] (C := [inR ((x3 * 48) + b_8)]) (pc' := 277) (ls' := [some (.inr (.inr (2, i0))), some (.inr (.inr (3, i1))), some (.inl x2), some (.inl x3), some (.inl x4), some (.inl x5), some (.inl x6), some (.inl x7), some (.inl x8), some (.inl x9), some (.inl x10), some (.inl x11), o12, o13]) (st' := [.inl ((x3 * 48) + b_8), .inr (.inr (3, i1)), .inl (M1_14.1 2 i0 11), .inr (.inr (303, i0))]) (M' := M1_14) rfl h.1 ?_
        replace h := h.2
        refine Wp.call h rfl rfl (by decide) ?_
        rintro _ M1_15 ⟨r_2, rfl, h⟩
        show Wp 2 203 280 [some (.inr (.inr (2, i0))), some (.inr (.inr (3, i1))), some (.inl x2), some (.inl x3), some (.inl x4), some (.inl x5), some (.inl x6), some (.inl x7), some (.inl x8), some (.inl x9), some (.inl x10), some (.inl x11), o12, o13] [.inl r_2, .inl (M1_14.1 2 i0 11), .inr (.inr (303, i0))] M1_15 (rV Q)
        refine Wp.call (put_303) rfl rfl (by decide) ?_
        rintro v_ M_ ⟨eM_, ev_⟩
        rw [eM_, ev_]
        clear eM_ ev_ v_ M_
        refine Bd (e := setA M1_15 303 i0 (putN 96 (M1_15.1 303 i0) (M1_14.1 2 i0 11) r_2)) (P := fun M1_16 : Mm => Wp 2 203 283 [some (.inr (.inr (2, i0))), some (.inr (.inr (3, i1))), some (.inl x2), some (.inl x3), some (.inl x4), some (.inl x5), some (.inl x6), some (.inl x7), some (.inl x8), some (.inl x9), some (.inl x10), some (.inl x11), o12, o13] [] M1_16 (rV Q)) ?_
        intro M1_16 e_M1_16
        replace h := h M1_16 e_M1_16
        refine Wp.path (k := 5) [] (C := []) (pc' := 293) (ls' := [some (.inr (.inr (2, i0))), some (.inr (.inr (3, i1))), some (.inl x2), some (.inl x3), some (.inl x4), some (.inl x5), some (.inl x6), some (.inl x7), some (.inl x8), some (.inl x9), some (.inl x10), some (.inl x11), o12, o13]) (st' := [.inl x9, .inl (M1_16.1 2 i0 11), .inr (.inr (304, i0))]) (M' := M1_16) rfl trivial ?_
        refine Wp.call (put_304) rfl rfl (by decide) ?_
        rintro v_ M_ ⟨eM_, ev_⟩
        rw [eM_, ev_]
        clear eM_ ev_ v_ M_
        refine Bd (e := setA M1_16 304 i0 (putN 96 (M1_16.1 304 i0) (M1_16.1 2 i0 11) x9)) (P := fun M1_17 : Mm => Wp 2 203 296 [some (.inr (.inr (2, i0))), some (.inr (.inr (3, i1))), some (.inl x2), some (.inl x3), some (.inl x4), some (.inl x5), some (.inl x6), some (.inl x7), some (.inl x8), some (.inl x9), some (.inl x10), some (.inl x11), o12, o13] [] M1_17 (rV Q)) ?_
        intro M1_17 e_M1_17
        replace h := h M1_17 e_M1_17
        refine Wp.path (k := 6) [] (C := [inR ((M1_17.1 2 i0 11) + 1)]) (pc' := 306) (ls' := [some (.inr (.inr (2, i0))), some (.inr (.inr (3, i1))), some (.inl x2), some (.inl x3), some (.inl x4), some (.inl x5), some (.inl x6), some (.inl x7), some (.inl x8), some (.inl x9), some (.inl x10), some (.inl x11), o12, o13]) (st' := []) (M' := setI M1_17 2 i0 11 ((M1_17.1 2 i0 11) + 1)) rfl h.1 ?_
        replace h := h.2
        refine Bd (P := fun M1_18 : Mm => Wp 2 203 306 [some (.inr (.inr (2, i0))), some (.inr (.inr (3, i1))), some (.inl x2), some (.inl x3), some (.inl x4), some (.inl x5), some (.inl x6), some (.inl x7), some (.inl x8), some (.inl x9), some (.inl x10), some (.inl x11), o12, o13] [] M1_18 (rV Q)) ?_
        intro M1_18 e_M1_18
        replace h := h M1_18 e_M1_18
        refine Wp.path (k := 4) [] (C := []) (pc' := 313) (ls' := [some (.inr (.inr (2, i0))), some (.inr (.inr (3, i1))), some (.inl x2), some (.inl x3), some (.inl x4), some (.inl x5), some (.inl x6), some (.inl x7), some (.inl x8), some (.inl x9), some (.inl x10), some (.inl x11), o12, o13]) (st' := [.inl x4, .inl (M1_18.1 2 i0 12), .inr (.inr (2, i0))]) (M' := M1_18) rfl trivial ?_
        have k_18 : ∀ b_9 : Int, b_9 = (if x4 = 0 then 0 else 1) → Wp 2 203 321 [some (.inr (.inr (2, i0))), some (.inr (.inr (3, i1))), some (.inl x2), some (.inl x3), some (.inl x4), some (.inl x5), some (.inl x6), some (.inl x7), some (.inl x8), some (.inl x9), some (.inl x10), some (.inl x11), o12, o13] [.inl b_9, .inl (M1_18.1 2 i0 12), .inr (.inr (2, i0))] M1_18 (rV Q) := by
          intro b_9 e_b_9
          replace h := h b_9 e_b_9
          refine Wp.path (k := 2) [] (C := [inR ((M1_18.1 2 i0 12) + b_9)]) (pc' := 325) (ls' := [some (.inr (.inr (2, i0))), some (.inr (.inr (3, i1))), some (.inl x2), some (.inl x3), some (.inl x4), some (.inl x5), some (.inl x6), some (.inl x7), some (.inl x8), some (.inl x9), some (.inl x10), some (.inl x11), o12, o13]) (st' := []) (M' := setI M1_18 2 i0 12 ((M1_18.1 2 i0 12) + b_9)) rfl h.1 ?_
          replace h := h.2
          refine Bd (P := fun M1_19 : Mm => Wp 2 203 325 [some (.inr (.inr (2, i0))), some (.inr (.inr (3, i1))), some (.inl x2), some (.inl x3), some (.inl x4), some (.inl x5), some (.inl x6), some (.inl x7), some (.inl x8), some (.inl x9), some (.inl x10), some (.inl x11), o12, o13] [] M1_19 (rV Q)) ?_
          intro M1_19 e_M1_19
          replace h := h M1_19 e_M1_19
          refine Wp.path (k := 6) [] (C := [inR ((M1_19.1 2 i0 15) + x9)]) (pc' := 336) (ls' := [some (.inr (.inr (2, i0))), some (.inr (.inr (3, i1))), some (.inl x2), some (.inl x3), some (.inl x4), some (.inl x5), some (.inl x6), some (.inl x7), some (.inl x8), some (.inl x9), some (.inl x10), some (.inl x11), o12, o13]) (st' := []) (M' := setI M1_19 2 i0 15 ((M1_19.1 2 i0 15) + x9)) rfl h.1 ?_
          replace h := h.2
          refine Bd (P := fun M1_20 : Mm => Wp 2 203 336 [some (.inr (.inr (2, i0))), some (.inr (.inr (3, i1))), some (.inl x2), some (.inl x3), some (.inl x4), some (.inl x5), some (.inl x6), some (.inl x7), some (.inl x8), some (.inl x9), some (.inl x10), some (.inl x11), o12, o13] [] M1_20 (rV Q)) ?_
          intro M1_20 e_M1_20
          replace h := h M1_20 e_M1_20
          exact Wp.ret rfl ⟨rfl, h⟩
        clear h
        rcases Decidable.em (x4 = 0) with c_19 | c_19
        · refine Wp.path (k := 1) [1] (C := [x4 = 0]) (pc' := 320) (ls' := [some (.inr (.inr (2, i0))), some (.inr (.inr (3, i1))), some (.inl x2), some (.inl x3), some (.inl x4), some (.inl x5), some (.inl x6), some (.inl x7), some (.inl x8), some (.inl x9), some (.inl x10), some (.inl x11), o12, o13]) (st' := [.inl (M1_18.1 2 i0 12), .inr (.inr (2, i0))]) (M' := M1_18) rfl c_19 ?_
          refine Wp.path (k := 1) [] (C := []) (pc' := 321) (ls' := [some (.inr (.inr (2, i0))), some (.inr (.inr (3, i1))), some (.inl x2), some (.inl x3), some (.inl x4), some (.inl x5), some (.inl x6), some (.inl x7), some (.inl x8), some (.inl x9), some (.inl x10), some (.inl x11), o12, o13]) (st' := [.inl 0, .inl (M1_18.1 2 i0 12), .inr (.inr (2, i0))]) (M' := M1_18) rfl trivial ?_
          exact k_18 _ (by rw [if_pos c_19])
        · refine Wp.path (k := 1) [0] (C := [x4 ≠ 0]) (pc' := 316) (ls' := [some (.inr (.inr (2, i0))), some (.inr (.inr (3, i1))), some (.inl x2), some (.inl x3), some (.inl x4), some (.inl x5), some (.inl x6), some (.inl x7), some (.inl x8), some (.inl x9), some (.inl x10), some (.inl x11), o12, o13]) (st' := [.inl (M1_18.1 2 i0 12), .inr (.inr (2, i0))]) (M' := M1_18) rfl c_19 ?_
          refine Wp.path (k := 2) [] (C := []) (pc' := 321) (ls' := [some (.inr (.inr (2, i0))), some (.inr (.inr (3, i1))), some (.inl x2), some (.inl x3), some (.inl x4), some (.inl x5), some (.inl x6), some (.inl x7), some (.inl x8), some (.inl x9), some (.inl x10), some (.inl x11), o12, o13]) (st' := [.inl 1, .inl (M1_18.1 2 i0 12), .inr (.inr (2, i0))]) (M' := M1_18) rfl trivial ?_
          exact k_18 _ (by rw [if_neg c_19])
      clear h
      rcases Decidable.em (x4 = 0) with c_21 | c_21
      · refine Wp.path (k := 1) [1] (C := [x4 = 0]) (pc' := 275) (ls' := [some (.inr (.inr (2, i0))), some (.inr (.inr (3, i1))), some (.inl x2), some (.inl x3), some (.inl x4), some (.inl x5), some (.inl x6), some (.inl x7), some (.inl x8), some (.inl x9), some (.inl x10), some (.inl x11), o12, o13]) (st' := [.inl (x3 * 48), .inr (.inr (3, i1)), .inl (M1_14.1 2 i0 11), .inr (.inr (303, i0))]) (M' := M1_14) rfl c_21 ?_
        refine Wp.path (k := 1) [] (C := []) (pc' := 276) (ls' := [some (.inr (.inr (2, i0))), some (.inr (.inr (3, i1))), some (.inl x2), some (.inl x3), some (.inl x4), some (.inl x5), some (.inl x6), some (.inl x7), some (.inl x8), some (.inl x9), some (.inl x10), some (.inl x11), o12, o13]) (st' := [.inl x2, .inl (x3 * 48), .inr (.inr (3, i1)), .inl (M1_14.1 2 i0 11), .inr (.inr (303, i0))]) (M' := M1_14) rfl trivial ?_
        exact k_20 _ (by rw [if_pos c_21])
      · refine Wp.path (k := 1) [0] (C := [x4 ≠ 0]) (pc' := 269) (ls' := [some (.inr (.inr (2, i0))), some (.inr (.inr (3, i1))), some (.inl x2), some (.inl x3), some (.inl x4), some (.inl x5), some (.inl x6), some (.inl x7), some (.inl x8), some (.inl x9), some (.inl x10), some (.inl x11), o12, o13]) (st' := [.inl (x3 * 48), .inr (.inr (3, i1)), .inl (M1_14.1 2 i0 11), .inr (.inr (303, i0))]) (M' := M1_14) rfl c_21 ?_
        refine Wp.path (k := 4) [] (C := [inR (x2 - 1)]) (pc' := 276) (ls' := [some (.inr (.inr (2, i0))), some (.inr (.inr (3, i1))), some (.inl x2), some (.inl x3), some (.inl x4), some (.inl x5), some (.inl x6), some (.inl x7), some (.inl x8), some (.inl x9), some (.inl x10), some (.inl x11), o12, o13]) (st' := [.inl (x2 - 1), .inl (x3 * 48), .inr (.inr (3, i1)), .inl (M1_14.1 2 i0 11), .inr (.inr (303, i0))]) (M' := M1_14) rfl (g20_0 c_21) ?_
        exact k_20 _ (by rw [if_neg c_21])
    clear h
    rcases Decidable.em (x4 = 0) with c_23 | c_23
    · refine Wp.path (k := 1) [1] (C := [x4 = 0]) (pc' := 247) (ls' := [some (.inr (.inr (2, i0))), some (.inr (.inr (3, i1))), some (.inl x2), some (.inl x3), some (.inl x4), some (.inl x5), some (.inl x6), some (.inl x7), some (.inl x8), some (.inl x9), some (.inl x10), some (.inl x11), o12, o13]) (st' := [.inl (M1_13.1 2 i0 11), .inr (.inr (302, i0))]) (M' := M1_13) rfl c_23 ?_
      refine Wp.path (k := 1) [] (C := []) (pc' := 248) (ls' := [some (.inr (.inr (2, i0))), some (.inr (.inr (3, i1))), some (.inl x2), some (.inl x3), some (.inl x4), some (.inl x5), some (.inl x6), some (.inl x7), some (.inl x8), some (.inl x9), some (.inl x10), some (.inl x11), o12, o13]) (st' := [.inl 0, .inl (M1_13.1 2 i0 11), .inr (.inr (302, i0))]) (M' := M1_13) rfl trivial ?_
      exact k_22 _ (by rw [if_pos c_23])
    · refine Wp.path (k := 1) [0] (C := [x4 ≠ 0]) (pc' := 243) (ls' := [some (.inr (.inr (2, i0))), some (.inr (.inr (3, i1))), some (.inl x2), some (.inl x3), some (.inl x4), some (.inl x5), some (.inl x6), some (.inl x7), some (.inl x8), some (.inl x9), some (.inl x10), some (.inl x11), o12, o13]) (st' := [.inl (M1_13.1 2 i0 11), .inr (.inr (302, i0))]) (M' := M1_13) rfl c_23 ?_
      refine Wp.path (k := 2) [] (C := []) (pc' := 248) (ls' := [some (.inr (.inr (2, i0))), some (.inr (.inr (3, i1))), some (.inl x2), some (.inl x3), some (.inl x4), some (.inl x5), some (.inl x6), some (.inl x7), some (.inl x8), some (.inl x9), some (.inl x10), some (.inl x11), o12, o13]) (st' := [.inl 1, .inl (M1_13.1 2 i0 11), .inr (.inr (302, i0))]) (M' := M1_13) rfl trivial ?_
      exact k_22 _ (by rw [if_neg c_23])
/-- X2_trace -/
def E_201 (i0 : Nat) (i1 : Nat) (M : Mm) (Q : Mm → Prop) : Prop := Ev 3 201 [.inr (.inr (2, i0)), .inr (.inr (3, i1))] M (rV Q)
theorem m_201 {i0 : Nat} {i1 : Nat} {M : Mm} {Q Q1 : Mm → Prop} (h : E_201 i0 i1 M Q) (k : (∀ M1, Q M1 → Q1 M1)) : E_201 i0 i1 M Q1 := Ev.mono h (fun v M1 h => ⟨h.1, k _ h.2⟩)
def L_201_32 (i0 : Nat) (i1 : Nat) (x2 : Int) (M : Mm) (Q : Mm → Prop) : Prop := ∀ o3 : Option Vv, Wp 3 201 32 [some (.inr (.inr (2, i0))), some (.inr (.inr (3, i1))), some (.inl x2), o3] [] M (rV Q)
def L_201_43 (i0 : Nat) (i1 : Nat) (x2 : Int) (x3 : Int) (M : Mm) (Q : Mm → Prop) : Prop := Wp 3 201 43 [some (.inr (.inr (2, i0))), some (.inr (.inr (3, i1))), some (.inl x2), some (.inl x3)] [] M (rV Q)
theorem s_201_0 {i0 : Nat} {i1 : Nat} {M : Mm} {Q : Mm → Prop} (h : (∀ M1 : Mm, M1 = setI M 2 i0 11 0 → (∀ M1_1 : Mm, M1_1 = setI M1 2 i0 12 0 → (∀ M1_2 : Mm, M1_2 = setI M1_1 2 i0 13 0 → (∀ M1_3 : Mm, M1_3 = setI M1_2 2 i0 14 0 → (∀ M1_4 : Mm, M1_4 = setI M1_3 2 i0 15 0 → (E_202 i0 i1 M1_4 (fun M1_5 : Mm => (L_201_32 i0 i1 0 M1_5 Q))))))))) : E_201 i0 i1 M Q := by
  show Wp 3 201 0 [some (.inr (.inr (2, i0))), some (.inr (.inr (3, i1))), none, none] [] M (rV Q)
  refine Wp.path (k := 3) [] (C := []) (pc' := 5) (ls' := [some (.inr (.inr (2, i0))), some (.inr (.inr (3, i1))), none, none]) (st' := []) (M' := setI M 2 i0 11 0) rfl trivial ?_
  refine Bd (P := fun M1 : Mm => Wp 3 201 5 [some (.inr (.inr (2, i0))), some (.inr (.inr (3, i1))), none, none] [] M1 (rV Q)) ?_
  intro M1 e_M1
  replace h := h M1 e_M1
  refine Wp.path (k := 3) [] (C := []) (pc' := 10) (ls' := [some (.inr (.inr (2, i0))), some (.inr (.inr (3, i1))), none, none]) (st' := []) (M' := setI M1 2 i0 12 0) rfl trivial ?_
  refine Bd (P := fun M1_1 : Mm => Wp 3 201 10 [some (.inr (.inr (2, i0))), some (.inr (.inr (3, i1))), none, none] [] M1_1 (rV Q)) ?_
  intro M1_1 e_M1_1
  replace h := h M1_1 e_M1_1
  refine Wp.path (k := 3) [] (C := []) (pc' := 15) (ls' := [some (.inr (.inr (2, i0))), some (.inr (.inr (3, i1))), none, none]) (st' := []) (M' := setI M1_1 2 i0 13 0) rfl trivial ?_
  refine Bd (P := fun M1_2 : Mm => Wp 3 201 15 [some (.inr (.inr (2, i0))), some (.inr (.inr (3, i1))), none, none] [] M1_2 (rV Q)) ?_
  intro M1_2 e_M1_2
  replace h := h M1_2 e_M1_2
  refine Wp.path (k := 3) [] (C := []) (pc' := 20) (ls' := [some (.inr (.inr (2, i0))), some (.inr (.inr (3, i1))), none, none]) (st' := []) (M' := setI M1_2 2 i0 14 0) rfl trivial ?_
  refine Bd (P := fun M1_3 : Mm => Wp 3 201 20 [some (.inr (.inr (2, i0))), some (.inr (.inr (3, i1))), none, none] [] M1_3 (rV Q)) ?_
  intro M1_3 e_M1_3
  replace h := h M1_3 e_M1_3
  refine Wp.path (k := 3) [] (C := []) (pc' := 25) (ls' := [some (.inr (.inr (2, i0))), some (.inr (.inr (3, i1))), none, none]) (st' := []) (M' := setI M1_3 2 i0 15 0) rfl trivial ?_
  refine Bd (P := fun M1_4 : Mm => Wp 3 201 25 [some (.inr (.inr (2, i0))), some (.inr (.inr (3, i1))), none, none] [] M1_4 (rV Q)) ?_
  intro M1_4 e_M1_4
  replace h := h M1_4 e_M1_4
  refine Wp.path (k := 2) [] (C := []) (pc' := 27) (ls' := [some (.inr (.inr (2, i0))), some (.inr (.inr (3, i1))), none, none]) (st' := [.inr (.inr (3, i1)), .inr (.inr (2, i0))]) (M' := M1_4) rfl trivial ?_
  refine Wp.call h rfl rfl (by decide) ?_
  rintro _ M1_5 ⟨rfl, h⟩
  show Wp 3 201 30 [some (.inr (.inr (2, i0))), some (.inr (.inr (3, i1))), none, none] [] M1_5 (rV Q)
  refine Wp.path (k := 2) [] (C := []) (pc' := 32) (ls' := [some (.inr (.inr (2, i0))), some (.inr (.inr (3, i1))), some (.inl 0), none]) (st' := []) (M' := M1_5) rfl trivial ?_
  exact h _
theorem s_201_32 {i0 : Nat} {i1 : Nat} {x2 : Int} {M : Mm} {Q : Mm → Prop} (h : ((49 ≤ x2 → (Q M)) ∧ (x2 < 49 → (L_201_43 i0 i1 x2 0 M Q)))) : L_201_32 i0 i1 x2 M Q := by
  intro o3
  show Wp 3 201 32 [some (.inr (.inr (2, i0))), some (.inr (.inr (3, i1))), some (.inl x2), o3] [] M (rV Q)
  refine Wp.path (k := 4) [] (C := []) (pc' := 38) (ls' := [some (.inr (.inr (2, i0))), some (.inr (.inr (3, i1))), some (.inl x2), o3]) (st' := [.inl 49, .inl x2]) (M' := M) rfl trivial ?_
  rcases Int.lt_or_le (x2) (49) with c_1 | c_1
  · replace h := h.2 c_1
    refine Wp.path (k := 1) [0] (C := [x2 < 49]) (pc' := 41) (ls' := [some (.inr (.inr (2, i0))), some (.inr (.inr (3, i1))), some (.inl x2), o3]) (st' := []) (M' := M) rfl c_1 ?_
    refine Wp.path (k := 2) [] (C := []) (pc' := 43) (ls' := [some (.inr (.inr (2, i0))), some (.inr (.inr (3, i1))), some (.inl x2), some (.inl 0)]) (st' := []) (M' := M) rfl trivial ?_
    exact h
  · replace h := h.1 c_1
    refine Wp.path (k := 1) [1] (C := [49 ≤ x2]) (pc' := 87) (ls' := [some (.inr (.inr (2, i0))), some (.inr (.inr (3, i1))), some (.inl x2), o3]) (st' := []) (M' := M) rfl c_1 ?_
    exact Wp.ret rfl ⟨rfl, h⟩
theorem s_201_43 {i0 : Nat} {i1 : Nat} {x2 : Int} {x3 : Int} {M : Mm} {Q : Mm → Prop} (h : ((48 < x3 → (((-2147483648 ≤ x2 + 1 ∧ x2 + 1 ≤ 2147483647)) ∧ (L_201_32 i0 i1 (x2 + 1) M Q))) ∧ (x3 ≤ 48 → (((0 ≤ x2 ∧ x2 < 49)) ∧ ((M.2 310 i0 x2.toNat = Int64.ofNat 0 → (((-2147483648 ≤ x2 + 1 ∧ x2 + 1 ≤ 2147483647)) ∧ (L_201_32 i0 i1 (x2 + 1) M Q))) ∧ (M.2 310 i0 x2.toNat ≠ Int64.ofNat 0 → (((0 ≤ x2 ∧ x2 < 49)) ∧ (E_203 i0 i1 (lowV (M.2 310 i0 x2.toNat)) x2 M (fun M1 : Mm => ((-2147483648 ≤ x3 + 1 ∧ x3 + 1 ≤ 2147483647)) ∧ (L_201_43 i0 i1 x2 (x3 + 1) M1 Q)))))))))) : L_201_43 i0 i1 x2 x3 M Q := by
  show Wp 3 201 43 [some (.inr (.inr (2, i0))), some (.inr (.inr (3, i1))), some (.inl x2), some (.inl x3)] [] M (rV Q)
  refine Wp.path (k := 2) [] (C := []) (pc' := 46) (ls' := [some (.inr (.inr (2, i0))), some (.inr (.inr (3, i1))), some (.inl x2), some (.inl x3)]) (st' := [.inl 48, .inl x3]) (M' := M) rfl trivial ?_
  rcases Int.lt_or_le (48) (x3) with c_1 | c_1
  · replace h := h.1 c_1
    refine Wp.path (k := 1) [1] (C := [48 < x3]) (pc' := 81) (ls' := [some (.inr (.inr (2, i0))), some (.inr (.inr (3, i1))), some (.inl x2), some (.inl x3)]) (st' := []) (M' := M) rfl c_1 ?_
    refine Wp.path (k := 2) [] (C := [inR (x2 + 1)]) (pc' := 32) (ls' := [some (.inr (.inr (2, i0))), some (.inr (.inr (3, i1))), some (.inl (x2 + 1)), some (.inl x3)]) (st' := []) (M' := M) rfl h.1 ?_
    replace h := h.2
    exact h _
  · replace h := h.2 c_1
    refine Wp.path (k := 1) [0] (C := [x3 ≤ 48]) (pc' := 49) (ls' := [some (.inr (.inr (2, i0))), some (.inr (.inr (3, i1))), some (.inl x2), some (.inl x3)]) (st' := []) (M' := M) rfl c_1 ?_
    refine Wp.path (k := 5) [] (C := [0 ≤ x2 ∧ x2 < 49]) (pc' := 56) (ls' := [some (.inr (.inr (2, i0))), some (.inr (.inr (3, i1))), some (.inl x2), some (.inl x3)]) (st' := [.inr (.inl (Int64.ofNat 0)), .inr (.inl (M.2 310 i0 x2.toNat))]) (M' := M) rfl h.1 ?_
    replace h := h.2
    rcases Decidable.em (M.2 310 i0 x2.toNat = Int64.ofNat 0) with c_2 | c_2
    · replace h := h.1 c_2
      refine Wp.path (k := 2) [1] (C := [lcm (M.2 310 i0 x2.toNat) (Int64.ofNat 0) = 0]) (pc' := 81) (ls' := [some (.inr (.inr (2, i0))), some (.inr (.inr (3, i1))), some (.inl x2), some (.inl x3)]) (st' := []) (M' := M) rfl (lcm_e c_2) ?_
      refine Wp.path (k := 2) [] (C := [inR (x2 + 1)]) (pc' := 32) (ls' := [some (.inr (.inr (2, i0))), some (.inr (.inr (3, i1))), some (.inl (x2 + 1)), some (.inl x3)]) (st' := []) (M' := M) rfl h.1 ?_
      replace h := h.2
      exact h _
    · replace h := h.2 c_2
      refine Wp.path (k := 2) [0] (C := [lcm (M.2 310 i0 x2.toNat) (Int64.ofNat 0) ≠ 0]) (pc' := 60) (ls' := [some (.inr (.inr (2, i0))), some (.inr (.inr (3, i1))), some (.inl x2), some (.inl x3)]) (st' := []) (M' := M) rfl (lcm_n c_2) ?_
      refine Wp.path (k := 6) [] (C := [0 ≤ x2 ∧ x2 < 49]) (pc' := 68) (ls' := [some (.inr (.inr (2, i0))), some (.inr (.inr (3, i1))), some (.inl x2), some (.inl x3)]) (st' := [.inr (.inl (M.2 310 i0 x2.toNat)), .inr (.inr (3, i1)), .inr (.inr (2, i0))]) (M' := M) rfl h.1 ?_
      replace h := h.2
      refine Wp.call (e944) rfl rfl (by decide) ?_
      rintro v_ M_ ⟨eM_, ev_⟩
      rw [eM_, ev_]
      clear eM_ ev_ v_ M_
      show Wp 3 201 71 [some (.inr (.inr (2, i0))), some (.inr (.inr (3, i1))), some (.inl x2), some (.inl x3)] [.inl (lowV (M.2 310 i0 x2.toNat)), .inr (.inr (3, i1)), .inr (.inr (2, i0))] M (rV Q)
      refine Wp.path (k := 1) [] (C := []) (pc' := 72) (ls' := [some (.inr (.inr (2, i0))), some (.inr (.inr (3, i1))), some (.inl x2), some (.inl x3)]) (st' := [.inl x2, .inl (lowV (M.2 310 i0 x2.toNat)), .inr (.inr (3, i1)), .inr (.inr (2, i0))]) (M' := M) rfl trivial ?_
      refine Wp.call h rfl rfl (by decide) ?_
      rintro _ M1 ⟨rfl, h⟩
      show Wp 3 201 75 [some (.inr (.inr (2, i0))), some (.inr (.inr (3, i1))), some (.inl x2), some (.inl x3)] [] M1 (rV Q)
      refine Wp.path (k := 2) [] (C := [inR (x3 + 1)]) (pc' := 43) (ls' := [some (.inr (.inr (2, i0))), some (.inr (.inr (3, i1))), some (.inl x2), some (.inl (x3 + 1))]) (st' := []) (M' := M1) rfl h.1 ?_
      replace h := h.2
      exact h
/-- X2_contourProperty -/
def E_208 (i0 : Nat) (x1 : Int) (x2 : Int) (M : Mm) (Q : Int → Mm → Prop) : Prop := Ev 1 208 [.inr (.inr (2, i0)), .inl x1, .inl x2] M (rI Q)
theorem m_208 {i0 : Nat} {x1 : Int} {x2 : Int} {M : Mm} {Q Q1 : Int → Mm → Prop} (h : E_208 i0 x1 x2 M Q) (k : (∀ r M1, Q r M1 → Q1 r M1)) : E_208 i0 x1 x2 M Q1 := Ev.mono h (fun v M1 ⟨r, h1, h2⟩ => ⟨r, h1, k _ _ h2⟩)
theorem s_208_0 {i0 : Nat} {x1 : Int} {x2 : Int} {M : Mm} {Q : Int → Mm → Prop} (h : ((x2 = 0 → (Q (atN 96 (M.1 301 i0) x1) M)) ∧ (x2 = 1 → (Q (atN 96 (M.1 302 i0) x1) M)) ∧ (x2 = 2 → (Q (atN 96 (M.1 303 i0) x1) M)) ∧ (x2 ≠ 0 ∧ x2 ≠ 1 ∧ x2 ≠ 2 → (Q (atN 96 (M.1 304 i0) x1) M)))) : E_208 i0 x1 x2 M Q := by
  show Wp 1 208 0 [some (.inr (.inr (2, i0))), some (.inl x1), some (.inl x2)] [] M (rI Q)
  refine Wp.path (k := 1) [] (C := []) (pc' := 1) (ls' := [some (.inr (.inr (2, i0))), some (.inl x1), some (.inl x2)]) (st' := [.inl x2]) (M' := M) rfl trivial ?_
  rcases Decidable.em (x2 = 0) with c_1 | c_1
  · replace h := h.1 c_1
    refine Wp.path (k := 1) [28] (C := [tswT 1 54 0 2 #[27, 36, 45] x2 = 28]) (pc' := 28) (ls' := [some (.inr (.inr (2, i0))), some (.inl x1), some (.inl x2)]) (st' := []) (M' := M) rfl (by rw [c_1]; rfl) ?_
    refine Wp.path (k := 3) [] (C := []) (pc' := 33) (ls' := [some (.inr (.inr (2, i0))), some (.inl x1), some (.inl x2)]) (st' := [.inl x1, .inr (.inr (301, i0))]) (M' := M) rfl trivial ?_
    refine Wp.call (at_301) rfl rfl (by decide) ?_
    rintro v_ M_ ⟨eM_, ev_⟩
    rw [eM_, ev_]
    clear eM_ ev_ v_ M_
    show Wp 1 208 36 [some (.inr (.inr (2, i0))), some (.inl x1), some (.inl x2)] [.inl (atN 96 (M.1 301 i0) x1)] M (rI Q)
    exact Wp.ret rfl ⟨_, rfl, h⟩
  replace h := h.2
  rcases Decidable.em (x2 = 1) with c_2 | c_2
  · replace h := h.1 c_2
    refine Wp.path (k := 1) [37] (C := [tswT 1 54 0 2 #[27, 36, 45] x2 = 37]) (pc' := 37) (ls' := [some (.inr (.inr (2, i0))), some (.inl x1), some (.inl x2)]) (st' := []) (M' := M) rfl (by rw [c_2]; rfl) ?_
    refine Wp.path (k := 3) [] (C := []) (pc' := 42) (ls' := [some (.inr (.inr (2, i0))), some (.inl x1), some (.inl x2)]) (st' := [.inl x1, .inr (.inr (302, i0))]) (M' := M) rfl trivial ?_
    refine Wp.call (at_302) rfl rfl (by decide) ?_
    rintro v_ M_ ⟨eM_, ev_⟩
    rw [eM_, ev_]
    clear eM_ ev_ v_ M_
    show Wp 1 208 45 [some (.inr (.inr (2, i0))), some (.inl x1), some (.inl x2)] [.inl (atN 96 (M.1 302 i0) x1)] M (rI Q)
    exact Wp.ret rfl ⟨_, rfl, h⟩
  replace h := h.2
  rcases Decidable.em (x2 = 2) with c_3 | c_3
  · replace h := h.1 c_3
    refine Wp.path (k := 1) [46] (C := [tswT 1 54 0 2 #[27, 36, 45] x2 = 46]) (pc' := 46) (ls' := [some (.inr (.inr (2, i0))), some (.inl x1), some (.inl x2)]) (st' := []) (M' := M) rfl (by rw [c_3]; rfl) ?_
    refine Wp.path (k := 3) [] (C := []) (pc' := 51) (ls' := [some (.inr (.inr (2, i0))), some (.inl x1), some (.inl x2)]) (st' := [.inl x1, .inr (.inr (303, i0))]) (M' := M) rfl trivial ?_
    refine Wp.call (at_303) rfl rfl (by decide) ?_
    rintro v_ M_ ⟨eM_, ev_⟩
    rw [eM_, ev_]
    clear eM_ ev_ v_ M_
    show Wp 1 208 54 [some (.inr (.inr (2, i0))), some (.inl x1), some (.inl x2)] [.inl (atN 96 (M.1 303 i0) x1)] M (rI Q)
    exact Wp.ret rfl ⟨_, rfl, h⟩
  replace h := h.2
  replace h := h ⟨c_1, c_2, c_3⟩
  refine Wp.path (k := 1) [55] (C := [tswT 1 54 0 2 #[27, 36, 45] x2 = 55]) (pc' := 55) (ls' := [some (.inr (.inr (2, i0))), some (.inl x1), some (.inl x2)]) (st' := []) (M' := M) rfl ((tsw_d (by omega)).trans rfl) ?_
  refine Wp.path (k := 3) [] (C := []) (pc' := 60) (ls' := [some (.inr (.inr (2, i0))), some (.inl x1), some (.inl x2)]) (st' := [.inl x1, .inr (.inr (304, i0))]) (M' := M) rfl trivial ?_
  refine Wp.call (at_304) rfl rfl (by decide) ?_
  rintro v_ M_ ⟨eM_, ev_⟩
  rw [eM_, ev_]
  clear eM_ ev_ v_ M_
  show Wp 1 208 63 [some (.inr (.inr (2, i0))), some (.inl x1), some (.inl x2)] [.inl (atN 96 (M.1 304 i0) x1)] M (rI Q)
  exact Wp.ret rfl ⟨_, rfl, h⟩
/-- X2_sideIndex -/
def E_210 (i0 : Nat) (x1 : Int) (x2 : Int) (M : Mm) (Q : Int → Mm → Prop) : Prop := Ev 1 210 [.inr (.inr (2, i0)), .inl x1, .inl x2] M (rI Q)
theorem m_210 {i0 : Nat} {x1 : Int} {x2 : Int} {M : Mm} {Q Q1 : Int → Mm → Prop} (h : E_210 i0 x1 x2 M Q) (k : (∀ r M1, Q r M1 → Q1 r M1)) : E_210 i0 x1 x2 M Q1 := Ev.mono h (fun v M1 ⟨r, h1, h2⟩ => ⟨r, h1, k _ _ h2⟩)
theorem s_210_0 {i0 : Nat} {x1 : Int} {x2 : Int} {M : Mm} {Q : Int → Mm → Prop} (h : (((-2147483648 ≤ (atN 96 (M.1 300 i0) x1) + x2 ∧ (atN 96 (M.1 300 i0) x1) + x2 ≤ 2147483647)) ∧ (Q ((atN 96 (M.1 300 i0) x1) + x2) M))) : E_210 i0 x1 x2 M Q := by
  show Wp 1 210 0 [some (.inr (.inr (2, i0))), some (.inl x1), some (.inl x2)] [] M (rI Q)
  refine Wp.path (k := 3) [] (C := []) (pc' := 5) (ls' := [some (.inr (.inr (2, i0))), some (.inl x1), some (.inl x2)]) (st' := [.inl x1, .inr (.inr (300, i0))]) (M' := M) rfl trivial ?_
  refine Wp.call (at_300) rfl rfl (by decide) ?_
  rintro v_ M_ ⟨eM_, ev_⟩
  rw [eM_, ev_]
  clear eM_ ev_ v_ M_
  show Wp 1 210 8 [some (.inr (.inr (2, i0))), some (.inl x1), some (.inl x2)] [.inl (atN 96 (M.1 300 i0) x1)] M (rI Q)
  refine Wp.path (k := 2) [] (C := [inR ((atN 96 (M.1 300 i0) x1) + x2)]) (pc' := 10) (ls' := [some (.inr (.inr (2, i0))), some (.inl x1), some (.inl x2)]) (st' := [.inl ((atN 96 (M.1 300 i0) x1) + x2)]) (M' := M) rfl h.1 ?_
  replace h := h.2
  exact Wp.ret rfl ⟨_, rfl, h⟩
/-- X2_contourOf -/
def E_211 (i0 : Nat) (x1 : Int) (M : Mm) (Q : Int → Mm → Prop) : Prop := Ev 1 211 [.inr (.inr (2, i0)), .inl x1] M (rI Q)
theorem m_211 {i0 : Nat} {x1 : Int} {M : Mm} {Q Q1 : Int → Mm → Prop} (h : E_211 i0 x1 M Q) (k : (∀ r M1, Q r M1 → Q1 r M1)) : E_211 i0 x1 M Q1 := Ev.mono h (fun v M1 ⟨r, h1, h2⟩ => ⟨r, h1, k _ _ h2⟩)
def L_211_2 (i0 : Nat) (x1 : Int) (x2 : Int) (M : Mm) (Q : Int → Mm → Prop) : Prop := Wp 1 211 2 [some (.inr (.inr (2, i0))), some (.inl x1), some (.inl x2)] [] M (rI Q)
theorem s_211_0 {i0 : Nat} {x1 : Int} {M : Mm} {Q : Int → Mm → Prop} (h : (L_211_2 i0 x1 0 M Q)) : E_211 i0 x1 M Q := by
  show Wp 1 211 0 [some (.inr (.inr (2, i0))), some (.inl x1), none] [] M (rI Q)
  refine Wp.path (k := 2) [] (C := []) (pc' := 2) (ls' := [some (.inr (.inr (2, i0))), some (.inl x1), some (.inl 0)]) (st' := []) (M' := M) rfl trivial ?_
  exact h
theorem s_211_2 {i0 : Nat} {x1 : Int} {x2 : Int} {M : Mm} {Q : Int → Mm → Prop} (h : ((M.1 2 i0 11 ≤ x2 → (Q (-1) M)) ∧ (x2 < M.1 2 i0 11 → (((-2147483648 ≤ (atN 96 (M.1 300 i0) x2) + (atN 96 (M.1 301 i0) x2) ∧ (atN 96 (M.1 300 i0) x2) + (atN 96 (M.1 301 i0) x2) ≤ 2147483647)) ∧ (((atN 96 (M.1 300 i0) x2) + (atN 96 (M.1 301 i0) x2) ≤ x1 → (((-2147483648 ≤ x2 + 1 ∧ x2 + 1 ≤ 2147483647)) ∧ (L_211_2 i0 x1 (x2 + 1) M Q))) ∧ (x1 < (atN 96 (M.1 300 i0) x2) + (atN 96 (M.1 301 i0) x2) → (Q x2 M))))))) : L_211_2 i0 x1 x2 M Q := by
  show Wp 1 211 2 [some (.inr (.inr (2, i0))), some (.inl x1), some (.inl x2)] [] M (rI Q)
  refine Wp.path (k := 3) [] (C := []) (pc' := 7) (ls' := [some (.inr (.inr (2, i0))), some (.inl x1), some (.inl x2)]) (st' := [.inl (M.1 2 i0 11), .inl x2]) (M' := M) rfl trivial ?_
  rcases Int.lt_or_le (x2) (M.1 2 i0 11) with c_1 | c_1
  · replace h := h.2 c_1
    refine Wp.path (k := 1) [0] (C := [x2 < M.1 2 i0 11]) (pc' := 10) (ls' := [some (.inr (.inr (2, i0))), some (.inl x1), some (.inl x2)]) (st' := []) (M' := M) rfl c_1 ?_
    refine Wp.path (k := 4) [] (C := []) (pc' := 16) (ls' := [some (.inr (.inr (2, i0))), some (.inl x1), some (.inl x2)]) (st' := [.inl x2, .inr (.inr (300, i0)), .inl x1]) (M' := M) rfl trivial ?_
    refine Wp.call (at_300) rfl rfl (by decide) ?_
    rintro v_ M_ ⟨eM_, ev_⟩
    rw [eM_, ev_]
    clear eM_ ev_ v_ M_
    show Wp 1 211 19 [some (.inr (.inr (2, i0))), some (.inl x1), some (.inl x2)] [.inl (atN 96 (M.1 300 i0) x2), .inl x1] M (rI Q)
    refine Wp.path (k := 3) [] (C := []) (pc' := 24) (ls' := [some (.inr (.inr (2, i0))), some (.inl x1), some (.inl x2)]) (st' := [.inl x2, .inr (.inr (301, i0)), .inl (atN 96 (M.1 300 i0) x2), .inl x1]) (M' := M) rfl trivial ?_
    refine Wp.call (at_301) rfl rfl (by decide) ?_
    rintro v_ M_ ⟨eM_, ev_⟩
    rw [eM_, ev_]
    clear eM_ ev_ v_ M_
    show Wp 1 211 27 [some (.inr (.inr (2, i0))), some (.inl x1), some (.inl x2)] [.inl (atN 96 (M.1 301 i0) x2), .inl (atN 96 (M.1 300 i0) x2), .inl x1] M (rI Q)
    refine Wp.path (k := 1) [] (C := [inR ((atN 96 (M.1 300 i0) x2) + (atN 96 (M.1 301 i0) x2))]) (pc' := 28) (ls' := [some (.inr (.inr (2, i0))), some (.inl x1), some (.inl x2)]) (st' := [.inl ((atN 96 (M.1 300 i0) x2) + (atN 96 (M.1 301 i0) x2)), .inl x1]) (M' := M) rfl h.1 ?_
    replace h := h.2
    rcases Int.lt_or_le (x1) ((atN 96 (M.1 300 i0) x2) + (atN 96 (M.1 301 i0) x2)) with c_2 | c_2
    · replace h := h.2 c_2
      refine Wp.path (k := 1) [0] (C := [x1 < (atN 96 (M.1 300 i0) x2) + (atN 96 (M.1 301 i0) x2)]) (pc' := 31) (ls' := [some (.inr (.inr (2, i0))), some (.inl x1), some (.inl x2)]) (st' := []) (M' := M) rfl c_2 ?_
      refine Wp.path (k := 1) [] (C := []) (pc' := 32) (ls' := [some (.inr (.inr (2, i0))), some (.inl x1), some (.inl x2)]) (st' := [.inl x2]) (M' := M) rfl trivial ?_
      exact Wp.ret rfl ⟨_, rfl, h⟩
    · replace h := h.1 c_2
      refine Wp.path (k := 1) [1] (C := [(atN 96 (M.1 300 i0) x2) + (atN 96 (M.1 301 i0) x2) ≤ x1]) (pc' := 33) (ls' := [some (.inr (.inr (2, i0))), some (.inl x1), some (.inl x2)]) (st' := []) (M' := M) rfl c_2 ?_
      refine Wp.path (k := 2) [] (C := [inR (x2 + 1)]) (pc' := 2) (ls' := [some (.inr (.inr (2, i0))), some (.inl x1), some (.inl (x2 + 1))]) (st' := []) (M' := M) rfl h.1 ?_
      replace h := h.2
      exact h
  · replace h := h.1 c_1
    refine Wp.path (k := 1) [1] (C := [M.1 2 i0 11 ≤ x2]) (pc' := 39) (ls' := [some (.inr (.inr (2, i0))), some (.inl x1), some (.inl x2)]) (st' := []) (M' := M) rfl c_1 ?_
    refine Wp.path (k := 1) [] (C := []) (pc' := 40) (ls' := [some (.inr (.inr (2, i0))), some (.inl x1), some (.inl x2)]) (st' := [.inl (-1)]) (M' := M) rfl trivial ?_
    exact Wp.ret rfl ⟨_, rfl, h⟩
/-- X3_addRun -/
def E_306 (i0 : Nat) (x1 : Int64) (x3 : Int) (M : Mm) (Q : Mm → Prop) : Prop := Ev 1 306 [.inr (.inr (3, i0)), .inr (.inl x1), .inl x3] M (rV Q)
theorem m_306 {i0 : Nat} {x1 : Int64} {x3 : Int} {M : Mm} {Q Q1 : Mm → Prop} (h : E_306 i0 x1 x3 M Q) (k : (∀ M1, Q M1 → Q1 M1)) : E_306 i0 x1 x3 M Q1 := Ev.mono h (fun v M1 h => ⟨h.1, k _ h.2⟩)
theorem s_306_0 {i0 : Nat} {x1 : Int64} {x3 : Int} {M : Mm} {Q : Mm → Prop} (h : ((M.1 3 i0 9 < 0 → (Q M)) ∧ (0 ≤ M.1 3 i0 9 → ((288 ≤ M.1 3 i0 9 → (Q M)) ∧ (M.1 3 i0 9 < 288 → (((0 ≤ M.1 3 i0 9 ∧ M.1 3 i0 9 < 288)) ∧ (∀ M1 : Mm, M1 = setJ M 403 i0 ((M.1 3 i0 9).toNat) x1 → (∀ M1_1 : Mm, M1_1 = setA M1 404 i0 (putN 288 (M1.1 404 i0) (M1.1 3 i0 9) x3) → (∀ M1_2 : Mm, M1_2 = setA M1_1 405 i0 (putN 288 (M1_1.1 405 i0) (M1_1.1 3 i0 9) (-1)) → (((-2147483648 ≤ (M1_2.1 3 i0 9) + 1 ∧ (M1_2.1 3 i0 9) + 1 ≤ 2147483647)) ∧ (∀ M1_3 : Mm, M1_3 = setI M1_2 3 i0 9 ((M1_2.1 3 i0 9) + 1) → (Q M1_3)))))))))))) : E_306 i0 x1 x3 M Q := by
  show Wp 1 306 0 [some (.inr (.inr (3, i0))), some (.inr (.inl x1)), none, some (.inl x3)] [] M (rV Q)
  refine Wp.path (k := 2) [] (C := []) (pc' := 4) (ls' := [some (.inr (.inr (3, i0))), some (.inr (.inl x1)), none, some (.inl x3)]) (st' := [.inl (M.1 3 i0 9)]) (M' := M) rfl trivial ?_
  rcases Int.lt_or_le (M.1 3 i0 9) (0) with c_1 | c_1
  · replace h := h.1 c_1
    refine Wp.path (k := 1) [1] (C := [M.1 3 i0 9 < 0]) (pc' := 63) (ls' := [some (.inr (.inr (3, i0))), some (.inr (.inl x1)), none, some (.inl x3)]) (st' := []) (M' := M) rfl c_1 ?_
    exact Wp.ret rfl ⟨rfl, h⟩
  · replace h := h.2 c_1
    refine Wp.path (k := 1) [0] (C := [0 ≤ M.1 3 i0 9]) (pc' := 7) (ls' := [some (.inr (.inr (3, i0))), some (.inr (.inl x1)), none, some (.inl x3)]) (st' := []) (M' := M) rfl c_1 ?_
    refine Wp.path (k := 5) [] (C := []) (pc' := 16) (ls' := [some (.inr (.inr (3, i0))), some (.inr (.inl x1)), none, some (.inl x3)]) (st' := [.inl 288, .inl (M.1 3 i0 9)]) (M' := M) rfl trivial ?_
    rcases Int.lt_or_le (M.1 3 i0 9) (288) with c_2 | c_2
    · replace h := h.2 c_2
      refine Wp.path (k := 1) [0] (C := [M.1 3 i0 9 < 288]) (pc' := 19) (ls' := [some (.inr (.inr (3, i0))), some (.inr (.inl x1)), none, some (.inl x3)]) (st' := []) (M' := M) rfl c_2 ?_
      refine Wp.path (k := 6) [] (C := [0 ≤ M.1 3 i0 9 ∧ M.1 3 i0 9 < 288]) (pc' := 29) (ls' := [some (.inr (.inr (3, i0))), some (.inr (.inl x1)), none, some (.inl x3)]) (st' := []) (M' := setJ M 403 i0 ((M.1 3 i0 9).toNat) x1) rfl h.1 ?_
      replace h := h.2
      refine Bd (P := fun M1 : Mm => Wp 1 306 29 [some (.inr (.inr (3, i0))), some (.inr (.inl x1)), none, some (.inl x3)] [] M1 (rV Q)) ?_
      intro M1 e_M1
      replace h := h M1 e_M1
      refine Wp.path (k := 5) [] (C := []) (pc' := 38) (ls' := [some (.inr (.inr (3, i0))), some (.inr (.inl x1)), none, some (.inl x3)]) (st' := [.inl x3, .inl (M1.1 3 i0 9), .inr (.inr (404, i0))]) (M' := M1) rfl trivial ?_
      refine Wp.call (put_404) rfl rfl (by decide) ?_
      rintro v_ M_ ⟨eM_, ev_⟩
      rw [eM_, ev_]
      clear eM_ ev_ v_ M_
      refine Bd (e := setA M1 404 i0 (putN 288 (M1.1 404 i0) (M1.1 3 i0 9) x3)) (P := fun M1_1 : Mm => Wp 1 306 41 [some (.inr (.inr (3, i0))), some (.inr (.inl x1)), none, some (.inl x3)] [] M1_1 (rV Q)) ?_
      intro M1_1 e_M1_1
      replace h := h M1_1 e_M1_1
      refine Wp.path (k := 5) [] (C := []) (pc' := 50) (ls' := [some (.inr (.inr (3, i0))), some (.inr (.inl x1)), none, some (.inl x3)]) (st' := [.inl (-1), .inl (M1_1.1 3 i0 9), .inr (.inr (405, i0))]) (M' := M1_1) rfl trivial ?_
      refine Wp.call (put_405) rfl rfl (by decide) ?_
      rintro v_ M_ ⟨eM_, ev_⟩
      rw [eM_, ev_]
      clear eM_ ev_ v_ M_
      refine Bd (e := setA M1_1 405 i0 (putN 288 (M1_1.1 405 i0) (M1_1.1 3 i0 9) (-1))) (P := fun M1_2 : Mm => Wp 1 306 53 [some (.inr (.inr (3, i0))), some (.inr (.inl x1)), none, some (.inl x3)] [] M1_2 (rV Q)) ?_
      intro M1_2 e_M1_2
      replace h := h M1_2 e_M1_2
      refine Wp.path (k := 6) [] (C := [inR ((M1_2.1 3 i0 9) + 1)]) (pc' := 63) (ls' := [some (.inr (.inr (3, i0))), some (.inr (.inl x1)), none, some (.inl x3)]) (st' := []) (M' := setI M1_2 3 i0 9 ((M1_2.1 3 i0 9) + 1)) rfl h.1 ?_
      replace h := h.2
      refine Bd (P := fun M1_3 : Mm => Wp 1 306 63 [some (.inr (.inr (3, i0))), some (.inr (.inl x1)), none, some (.inl x3)] [] M1_3 (rV Q)) ?_
      intro M1_3 e_M1_3
      replace h := h M1_3 e_M1_3
      exact Wp.ret rfl ⟨rfl, h⟩
    · replace h := h.1 c_2
      refine Wp.path (k := 1) [1] (C := [288 ≤ M.1 3 i0 9]) (pc' := 63) (ls' := [some (.inr (.inr (3, i0))), some (.inr (.inl x1)), none, some (.inl x3)]) (st' := []) (M' := M) rfl c_2 ?_
      exact Wp.ret rfl ⟨rfl, h⟩
/-- X3_findRuns -/
def E_305 (i0 : Nat) (M : Mm) (Q : Mm → Prop) : Prop := Ev 2 305 [.inr (.inr (3, i0))] M (rV Q)
theorem m_305 {i0 : Nat} {M : Mm} {Q Q1 : Mm → Prop} (h : E_305 i0 M Q) (k : (∀ M1, Q M1 → Q1 M1)) : E_305 i0 M Q1 := Ev.mono h (fun v M1 h => ⟨h.1, k _ h.2⟩)
def L_305_7 (i0 : Nat) (x1 : Int) (M : Mm) (Q : Mm → Prop) : Prop := ∀ o2 o3 o4 o5 o6 : Option Vv, Wp 2 305 7 [some (.inr (.inr (3, i0))), some (.inl x1), o2, o3, o4, o5, o6] [] M (rV Q)
def L_305_38 (i0 : Nat) (x1 : Int) (x2 : Int64) (x4 : Int) (M : Mm) (Q : Mm → Prop) : Prop := ∀ o5 o6 : Option Vv, Wp 2 305 38 [some (.inr (.inr (3, i0))), some (.inl x1), some (.inr (.inl x2)), none, some (.inl x4), o5, o6] [] M (rV Q)
theorem s_305_0 {i0 : Nat} {M : Mm} {Q : Mm → Prop} (h : (∀ M1 : Mm, M1 = setI M 3 i0 9 0 → (L_305_7 i0 0 M1 Q))) : E_305 i0 M Q := by
  show Wp 2 305 0 [some (.inr (.inr (3, i0))), none, none, none, none, none, none] [] M (rV Q)
  refine Wp.path (k := 3) [] (C := []) (pc' := 5) (ls' := [some (.inr (.inr (3, i0))), none, none, none, none, none, none]) (st' := []) (M' := setI M 3 i0 9 0) rfl trivial ?_
  refine Bd (P := fun M1 : Mm => Wp 2 305 5 [some (.inr (.inr (3, i0))), none, none, none, none, none, none] [] M1 (rV Q)) ?_
  intro M1 e_M1
  replace h := h M1 e_M1
  refine Wp.path (k := 2) [] (C := []) (pc' := 7) (ls' := [some (.inr (.inr (3, i0))), some (.inl 0), none, none, none, none, none]) (st' := []) (M' := M1) rfl trivial ?_
  exact h _ _ _ _ _
theorem s_305_7 {i0 : Nat} {x1 : Int} {M : Mm} {Q : Mm → Prop} (h : ((48 ≤ x1 → (∀ M1_1 : Mm, M1_1 = setA M 402 i0 (putN 49 (M.1 402 i0) 48 (M.1 3 i0 9)) → (Q M1_1))) ∧ (x1 < 48 → (((0 ≤ x1 ∧ x1 < 48)) ∧ (∀ x2 : Int64, x2 = M.2 401 i0 x1.toNat → (∀ M1 : Mm, M1 = setA M 402 i0 (putN 49 (M.1 402 i0) x1 (M.1 3 i0 9)) → (L_305_38 i0 x1 x2 0 M1 Q))))))) : L_305_7 i0 x1 M Q := by
  intro o2 o3 o4 o5 o6
  show Wp 2 305 7 [some (.inr (.inr (3, i0))), some (.inl x1), o2, o3, o4, o5, o6] [] M (rV Q)
  refine Wp.path (k := 4) [] (C := []) (pc' := 13) (ls' := [some (.inr (.inr (3, i0))), some (.inl x1), o2, o3, o4, o5, o6]) (st' := [.inl 48, .inl x1]) (M' := M) rfl trivial ?_
  rcases Int.lt_or_le (x1) (48) with c_1 | c_1
  · replace h := h.2 c_1
    refine Wp.path (k := 1) [0] (C := [x1 < 48]) (pc' := 16) (ls' := [some (.inr (.inr (3, i0))), some (.inl x1), o2, o3, o4, o5, o6]) (st' := []) (M' := M) rfl c_1 ?_
    refine Wp.path (k := 5) [] (C := [0 ≤ x1 ∧ x1 < 48]) (pc' := 23) (ls' := [some (.inr (.inr (3, i0))), some (.inl x1), some (.inr (.inl (M.2 401 i0 x1.toNat))), none, o4, o5, o6]) (st' := []) (M' := M) rfl h.1 ?_
    replace h := h.2
    refine Bd (P := fun x2 : Int64 => Wp 2 305 23 [some (.inr (.inr (3, i0))), some (.inl x1), some (.inr (.inl x2)), none, o4, o5, o6] [] M (rV Q)) ?_
    intro x2 e_x2
    replace h := h x2 e_x2
    refine Wp.path (k := 5) [] (C := []) (pc' := 32) (ls' := [some (.inr (.inr (3, i0))), some (.inl x1), some (.inr (.inl x2)), none, o4, o5, o6]) (st' := [.inl (M.1 3 i0 9), .inl x1, .inr (.inr (402, i0))]) (M' := M) rfl trivial ?_
    refine Wp.call (put_402) rfl rfl (by decide) ?_
    rintro v_ M_ ⟨eM_, ev_⟩
    rw [eM_, ev_]
    clear eM_ ev_ v_ M_
    refine Bd (e := setA M 402 i0 (putN 49 (M.1 402 i0) x1 (M.1 3 i0 9))) (P := fun M1 : Mm => Wp 2 305 35 [some (.inr (.inr (3, i0))), some (.inl x1), some (.inr (.inl x2)), none, o4, o5, o6] [] M1 (rV Q)) ?_
    intro M1 e_M1
    replace h := h M1 e_M1
    refine Wp.path (k := 2) [] (C := []) (pc' := 38) (ls' := [some (.inr (.inr (3, i0))), some (.inl x1), some (.inr (.inl x2)), none, some (.inl 0), o5, o6]) (st' := []) (M' := M1) rfl trivial ?_
    exact h _ _
  · replace h := h.1 c_1
    refine Wp.path (k := 1) [1] (C := [48 ≤ x1]) (pc' := 89) (ls' := [some (.inr (.inr (3, i0))), some (.inl x1), o2, o3, o4, o5, o6]) (st' := []) (M' := M) rfl c_1 ?_
    refine Wp.path (k := 5) [] (C := []) (pc' := 99) (ls' := [some (.inr (.inr (3, i0))), some (.inl x1), o2, o3, o4, o5, o6]) (st' := [.inl (M.1 3 i0 9), .inl 48, .inr (.inr (402, i0))]) (M' := M) rfl trivial ?_
    refine Wp.call (put_402) rfl rfl (by decide) ?_
    rintro v_ M_ ⟨eM_, ev_⟩
    rw [eM_, ev_]
    clear eM_ ev_ v_ M_
    refine Bd (e := setA M 402 i0 (putN 49 (M.1 402 i0) 48 (M.1 3 i0 9))) (P := fun M1_1 : Mm => Wp 2 305 102 [some (.inr (.inr (3, i0))), some (.inl x1), o2, o3, o4, o5, o6] [] M1_1 (rV Q)) ?_
    intro M1_1 e_M1_1
    replace h := h M1_1 e_M1_1
    exact Wp.ret rfl ⟨rfl, h⟩
theorem s_305_38 {i0 : Nat} {x1 : Int} {x2 : Int64} {x4 : Int} {M : Mm} {Q : Mm → Prop} (h : ((48 ≤ x4 → (((-2147483648 ≤ x1 + 1 ∧ x1 + 1 ≤ 2147483647)) ∧ (L_305_7 i0 (x1 + 1) M Q))) ∧ (x4 < 48 → ((x2 = Int64.ofNat 0 → (((-2147483648 ≤ x1 + 1 ∧ x1 + 1 ≤ 2147483647)) ∧ (L_305_7 i0 (x1 + 1) M Q))) ∧ (x2 ≠ Int64.ofNat 0 → (∀ x5 : Int64, x5 = x2 &&& ((x2 + (x2 &&& (-x2))) ^^^ (Int64.ofInt (-1))) → (E_306 i0 x5 x1 M (fun M1 : Mm => (∀ x2_1 : Int64, x2_1 = x2 ^^^ x5 → (((-2147483648 ≤ x4 + 1 ∧ x4 + 1 ≤ 2147483647)) ∧ (L_305_38 i0 x1 x2_1 (x4 + 1) M1 Q))))))))))) : L_305_38 i0 x1 x2 x4 M Q := by
  intro o5 o6
  show Wp 2 305 38 [some (.inr (.inr (3, i0))), some (.inl x1), some (.inr (.inl x2)), none, some (.inl x4), o5, o6] [] M (rV Q)
  refine Wp.path (k := 2) [] (C := []) (pc' := 42) (ls' := [some (.inr (.inr (3, i0))), some (.inl x1), some (.inr (.inl x2)), none, some (.inl x4), o5, o6]) (st' := [.inl 48, .inl x4]) (M' := M) rfl trivial ?_
  rcases Int.lt_or_le (x4) (48) with c_1 | c_1
  · replace h := h.2 c_1
    refine Wp.path (k := 1) [0] (C := [x4 < 48]) (pc' := 45) (ls' := [some (.inr (.inr (3, i0))), some (.inl x1), some (.inr (.inl x2)), none, some (.inl x4), o5, o6]) (st' := []) (M' := M) rfl c_1 ?_
    refine Wp.path (k := 2) [] (C := []) (pc' := 47) (ls' := [some (.inr (.inr (3, i0))), some (.inl x1), some (.inr (.inl x2)), none, some (.inl x4), o5, o6]) (st' := [.inr (.inl (Int64.ofNat 0)), .inr (.inl x2)]) (M' := M) rfl trivial ?_
    rcases Decidable.em (x2 = Int64.ofNat 0) with c_2 | c_2
    · replace h := h.1 c_2
      refine Wp.path (k := 2) [1] (C := [lcm x2 (Int64.ofNat 0) = 0]) (pc' := 83) (ls' := [some (.inr (.inr (3, i0))), some (.inl x1), some (.inr (.inl x2)), none, some (.inl x4), o5, o6]) (st' := []) (M' := M) rfl (lcm_e c_2) ?_
      refine Wp.path (k := 2) [] (C := [inR (x1 + 1)]) (pc' := 7) (ls' := [some (.inr (.inr (3, i0))), some (.inl (x1 + 1)), some (.inr (.inl x2)), none, some (.inl x4), o5, o6]) (st' := []) (M' := M) rfl h.1 ?_
      replace h := h.2
      exact h _ _ _ _ _
    · replace h := h.2 c_2
      refine Wp.path (k := 2) [0] (C := [lcm x2 (Int64.ofNat 0) ≠ 0]) (pc' := 51) (ls' := [some (.inr (.inr (3, i0))), some (.inl x1), some (.inr (.inl x2)), none, some (.inl x4), o5, o6]) (st' := []) (M' := M) rfl (lcm_n c_2) ?_
      refine Wp.path (k := 11) [] (C := []) (pc' := 65) (ls' := [some (.inr (.inr (3, i0))), some (.inl x1), some (.inr (.inl x2)), none, some (.inl x4), some (.inr (.inl (x2 &&& ((x2 + (x2 &&& (-x2))) ^^^ (Int64.ofInt (-1)))))), none]) (st' := []) (M' := M) rfl trivial ?_
      refine Bd (P := fun x5 : Int64 => Wp 2 305 65 [some (.inr (.inr (3, i0))), some (.inl x1), some (.inr (.inl x2)), none, some (.inl x4), some (.inr (.inl x5)), none] [] M (rV Q)) ?_
      intro x5 e_x5
      replace h := h x5 e_x5
      refine Wp.path (k := 3) [] (C := []) (pc' := 69) (ls' := [some (.inr (.inr (3, i0))), some (.inl x1), some (.inr (.inl x2)), none, some (.inl x4), some (.inr (.inl x5)), none]) (st' := [.inl x1, .inr (.inl x5), .inr (.inr (3, i0))]) (M' := M) rfl trivial ?_
      refine Wp.call h rfl rfl (by decide) ?_
      rintro _ M1 ⟨rfl, h⟩
      show Wp 2 305 72 [some (.inr (.inr (3, i0))), some (.inl x1), some (.inr (.inl x2)), none, some (.inl x4), some (.inr (.inl x5)), none] [] M1 (rV Q)
      refine Wp.path (k := 4) [] (C := []) (pc' := 77) (ls' := [some (.inr (.inr (3, i0))), some (.inl x1), some (.inr (.inl (x2 ^^^ x5))), none, some (.inl x4), some (.inr (.inl x5)), none]) (st' := []) (M' := M1) rfl trivial ?_
      refine Bd (P := fun x2_1 : Int64 => Wp 2 305 77 [some (.inr (.inr (3, i0))), some (.inl x1), some (.inr (.inl x2_1)), none, some (.inl x4), some (.inr (.inl x5)), none] [] M1 (rV Q)) ?_
      intro x2_1 e_x2_1
      replace h := h x2_1 e_x2_1
      refine Wp.path (k := 2) [] (C := [inR (x4 + 1)]) (pc' := 38) (ls' := [some (.inr (.inr (3, i0))), some (.inl x1), some (.inr (.inl x2_1)), none, some (.inl (x4 + 1)), some (.inr (.inl x5)), none]) (st' := []) (M' := M1) rfl h.1 ?_
      replace h := h.2
      exact h _ _
  · replace h := h.1 c_1
    refine Wp.path (k := 1) [1] (C := [48 ≤ x4]) (pc' := 83) (ls' := [some (.inr (.inr (3, i0))), some (.inl x1), some (.inr (.inl x2)), none, some (.inl x4), o5, o6]) (st' := []) (M' := M) rfl c_1 ?_
    refine Wp.path (k := 2) [] (C := [inR (x1 + 1)]) (pc' := 7) (ls' := [some (.inr (.inr (3, i0))), some (.inl (x1 + 1)), some (.inr (.inl x2)), none, some (.inl x4), o5, o6]) (st' := []) (M' := M) rfl h.1 ?_
    replace h := h.2
    exact h _ _ _ _ _
/-- X3_labelBeside -/
def E_309 (i0 : Nat) (x1 : Int) (x2 : Int) (x3 : Int) (M : Mm) (Q : Int → Mm → Prop) : Prop := Ev 1 309 [.inr (.inr (3, i0)), .inl x1, .inl x2, .inl x3] M (rI Q)
theorem m_309 {i0 : Nat} {x1 : Int} {x2 : Int} {x3 : Int} {M : Mm} {Q Q1 : Int → Mm → Prop} (h : E_309 i0 x1 x2 x3 M Q) (k : (∀ r M1, Q r M1 → Q1 r M1)) : E_309 i0 x1 x2 x3 M Q1 := Ev.mono h (fun v M1 ⟨r, h1, h2⟩ => ⟨r, h1, k _ _ h2⟩)
def L_309_30 (i0 : Nat) (x1 : Int) (x2 : Int) (x3 : Int) (x4 : Int) (x5 : Int) (M : Mm) (Q : Int → Mm → Prop) : Prop := Wp 1 309 30 [some (.inr (.inr (3, i0))), some (.inl x1), some (.inl x2), some (.inl x3), some (.inl x4), some (.inl x5)] [] M (rI Q)
theorem s_309_0 {i0 : Nat} {x1 : Int} {x2 : Int} {x3 : Int} {M : Mm} {Q : Int → Mm → Prop} (h : ((x2 < 0 → (∀ x5 : Int, x5 = atN 49 (M.1 402 i0) x2 → (L_309_30 i0 x1 x2 x3 0 x5 M Q))) ∧ (0 ≤ x2 → (((-2147483648 ≤ x2 + 1 ∧ x2 + 1 ≤ 2147483647)) ∧ (∀ x4 : Int, x4 = atN 49 (M.1 402 i0) (x2 + 1) → (∀ x5_1 : Int, x5_1 = atN 49 (M.1 402 i0) x2 → (L_309_30 i0 x1 x2 x3 x4 x5_1 M Q))))))) : E_309 i0 x1 x2 x3 M Q := by
  show Wp 1 309 0 [some (.inr (.inr (3, i0))), some (.inl x1), some (.inl x2), some (.inl x3), none, none] [] M (rI Q)
  refine Wp.path (k := 1) [] (C := []) (pc' := 1) (ls' := [some (.inr (.inr (3, i0))), some (.inl x1), some (.inl x2), some (.inl x3), none, none]) (st' := [.inl x2]) (M' := M) rfl trivial ?_
  rcases Int.lt_or_le (x2) (0) with c_1 | c_1
  · replace h := h.1 c_1
    refine Wp.path (k := 1) [1] (C := [x2 < 0]) (pc' := 17) (ls' := [some (.inr (.inr (3, i0))), some (.inl x1), some (.inl x2), some (.inl x3), none, none]) (st' := []) (M' := M) rfl c_1 ?_
    refine Wp.path (k := 5) [] (C := []) (pc' := 25) (ls' := [some (.inr (.inr (3, i0))), some (.inl x1), some (.inl x2), some (.inl x3), some (.inl 0), none]) (st' := [.inl x2, .inr (.inr (402, i0))]) (M' := M) rfl trivial ?_
    refine Wp.call (at_402) rfl rfl (by decide) ?_
    rintro v_ M_ ⟨eM_, ev_⟩
    rw [eM_, ev_]
    clear eM_ ev_ v_ M_
    show Wp 1 309 28 [some (.inr (.inr (3, i0))), some (.inl x1), some (.inl x2), some (.inl x3), some (.inl 0), none] [.inl (atN 49 (M.1 402 i0) x2)] M (rI Q)
    refine Wp.path (k := 1) [] (C := []) (pc' := 30) (ls' := [some (.inr (.inr (3, i0))), some (.inl x1), some (.inl x2), some (.inl x3), some (.inl 0), some (.inl (atN 49 (M.1 402 i0) x2))]) (st' := []) (M' := M) rfl trivial ?_
    refine Bd (P := fun x5 : Int => Wp 1 309 30 [some (.inr (.inr (3, i0))), some (.inl x1), some (.inl x2), some (.inl x3), some (.inl 0), some (.inl x5)] [] M (rI Q)) ?_
    intro x5 e_x5
    replace h := h x5 e_x5
    exact h
  · replace h := h.2 c_1
    refine Wp.path (k := 1) [0] (C := [0 ≤ x2]) (pc' := 4) (ls' := [some (.inr (.inr (3, i0))), some (.inl x1), some (.inl x2), some (.inl x3), none, none]) (st' := []) (M' := M) rfl c_1 ?_
    refine Wp.path (k := 5) [] (C := [inR (x2 + 1)]) (pc' := 11) (ls' := [some (.inr (.inr (3, i0))), some (.inl x1), some (.inl x2), some (.inl x3), none, none]) (st' := [.inl (x2 + 1), .inr (.inr (402, i0))]) (M' := M) rfl h.1 ?_
    replace h := h.2
    refine Wp.call (at_402) rfl rfl (by decide) ?_
    rintro v_ M_ ⟨eM_, ev_⟩
    rw [eM_, ev_]
    clear eM_ ev_ v_ M_
    show Wp 1 309 14 [some (.inr (.inr (3, i0))), some (.inl x1), some (.inl x2), some (.inl x3), none, none] [.inl (atN 49 (M.1 402 i0) (x2 + 1))] M (rI Q)
    refine Wp.path (k := 2) [] (C := []) (pc' := 20) (ls' := [some (.inr (.inr (3, i0))), some (.inl x1), some (.inl x2), some (.inl x3), some (.inl (atN 49 (M.1 402 i0) (x2 + 1))), none]) (st' := []) (M' := M) rfl trivial ?_
    refine Bd (P := fun x4 : Int => Wp 1 309 20 [some (.inr (.inr (3, i0))), some (.inl x1), some (.inl x2), some (.inl x3), some (.inl x4), none] [] M (rI Q)) ?_
    intro x4 e_x4
    replace h := h x4 e_x4
    refine Wp.path (k := 3) [] (C := []) (pc' := 25) (ls' := [some (.inr (.inr (3, i0))), some (.inl x1), some (.inl x2), some (.inl x3), some (.inl x4), none]) (st' := [.inl x2, .inr (.inr (402, i0))]) (M' := M) rfl trivial ?_
    refine Wp.call (at_402) rfl rfl (by decide) ?_
    rintro v_ M_ ⟨eM_, ev_⟩
    rw [eM_, ev_]
    clear eM_ ev_ v_ M_
    show Wp 1 309 28 [some (.inr (.inr (3, i0))), some (.inl x1), some (.inl x2), some (.inl x3), some (.inl x4), none] [.inl (atN 49 (M.1 402 i0) x2)] M (rI Q)
    refine Wp.path (k := 1) [] (C := []) (pc' := 30) (ls' := [some (.inr (.inr (3, i0))), some (.inl x1), some (.inl x2), some (.inl x3), some (.inl x4), some (.inl (atN 49 (M.1 402 i0) x2))]) (st' := []) (M' := M) rfl trivial ?_
    refine Bd (P := fun x5_1 : Int => Wp 1 309 30 [some (.inr (.inr (3, i0))), some (.inl x1), some (.inl x2), some (.inl x3), some (.inl x4), some (.inl x5_1)] [] M (rI Q)) ?_
    intro x5_1 e_x5_1
    replace h := h x5_1 e_x5_1
    exact h
theorem s_309_30 {i0 : Nat} {x1 : Int} {x2 : Int} {x3 : Int} {x4 : Int} {x5 : Int} {M : Mm} {Q : Int → Mm → Prop} (h : ((x4 ≤ x5 → (Q x3 M)) ∧ (x5 < x4 → ((0 ≤ atN 288 (M.1 405 i0) x5 → (((-2147483648 ≤ x5 + 1 ∧ x5 + 1 ≤ 2147483647)) ∧ (L_309_30 i0 x1 x2 x3 x4 (x5 + 1) M Q))) ∧ (atN 288 (M.1 405 i0) x5 < 0 → (((atJ 288 (M.2 403 i0) x5) &&& (atJ 288 (M.2 403 i0) x1) = Int64.ofNat 0 → (((-2147483648 ≤ x5 + 1 ∧ x5 + 1 ≤ 2147483647)) ∧ (L_309_30 i0 x1 x2 x3 x4 (x5 + 1) M Q))) ∧ ((atJ 288 (M.2 403 i0) x5) &&& (atJ 288 (M.2 403 i0) x1) ≠ Int64.ofNat 0 → (∀ M1 : Mm, M1 = setA M 405 i0 (putN 288 (M.1 405 i0) x5 (M.1 3 i0 10)) → (∀ M1_1 : Mm, M1_1 = setA M1 406 i0 (putN 288 (M1.1 406 i0) x3 x5) → (((-2147483648 ≤ x3 + 1 ∧ x3 + 1 ≤ 2147483647) ∧ (-2147483648 ≤ x5 + 1 ∧ x5 + 1 ≤ 2147483647)) ∧ (L_309_30 i0 x1 x2 (x3 + 1) x4 (x5 + 1) M1_1 Q))))))))))) : L_309_30 i0 x1 x2 x3 x4 x5 M Q := by
  show Wp 1 309 30 [some (.inr (.inr (3, i0))), some (.inl x1), some (.inl x2), some (.inl x3), some (.inl x4), some (.inl x5)] [] M (rI Q)
  refine Wp.path (k := 2) [] (C := []) (pc' := 34) (ls' := [some (.inr (.inr (3, i0))), some (.inl x1), some (.inl x2), some (.inl x3), some (.inl x4), some (.inl x5)]) (st' := [.inl x4, .inl x5]) (M' := M) rfl trivial ?_
  rcases Int.lt_or_le (x5) (x4) with c_1 | c_1
  · replace h := h.2 c_1
    refine Wp.path (k := 1) [0] (C := [x5 < x4]) (pc' := 37) (ls' := [some (.inr (.inr (3, i0))), some (.inl x1), some (.inl x2), some (.inl x3), some (.inl x4), some (.inl x5)]) (st' := []) (M' := M) rfl c_1 ?_
    refine Wp.path (k := 3) [] (C := []) (pc' := 43) (ls' := [some (.inr (.inr (3, i0))), some (.inl x1), some (.inl x2), some (.inl x3), some (.inl x4), some (.inl x5)]) (st' := [.inl x5, .inr (.inr (405, i0))]) (M' := M) rfl trivial ?_
    refine Wp.call (at_405) rfl rfl (by decide) ?_
    rintro v_ M_ ⟨eM_, ev_⟩
    rw [eM_, ev_]
    clear eM_ ev_ v_ M_
    show Wp 1 309 46 [some (.inr (.inr (3, i0))), some (.inl x1), some (.inl x2), some (.inl x3), some (.inl x4), some (.inl x5)] [.inl (atN 288 (M.1 405 i0) x5)] M (rI Q)
    rcases Int.lt_or_le (atN 288 (M.1 405 i0) x5) (0) with c_2 | c_2
    · replace h := h.2 c_2
      refine Wp.path (k := 1) [0] (C := [atN 288 (M.1 405 i0) x5 < 0]) (pc' := 49) (ls' := [some (.inr (.inr (3, i0))), some (.inl x1), some (.inl x2), some (.inl x3), some (.inl x4), some (.inl x5)]) (st' := []) (M' := M) rfl c_2 ?_
      refine Wp.path (k := 3) [] (C := []) (pc' := 55) (ls' := [some (.inr (.inr (3, i0))), some (.inl x1), some (.inl x2), some (.inl x3), some (.inl x4), some (.inl x5)]) (st' := [.inl x5, .inr (.inr (403, i0))]) (M' := M) rfl trivial ?_
      refine Wp.call (rat_403) rfl rfl (by decide) ?_
      rintro v_ M_ ⟨eM_, ev_⟩
      rw [eM_, ev_]
      clear eM_ ev_ v_ M_
      show Wp 1 309 58 [some (.inr (.inr (3, i0))), some (.inl x1), some (.inl x2), some (.inl x3), some (.inl x4), some (.inl x5)] [.inr (.inl (atJ 288 (M.2 403 i0) x5))] M (rI Q)
      refine Wp.path (k := 3) [] (C := []) (pc' := 63) (ls' := [some (.inr (.inr (3, i0))), some (.inl x1), some (.inl x2), some (.inl x3), some (.inl x4), some (.inl x5)]) (st' := [.inl x1, .inr (.inr (403, i0)), .inr (.inl (atJ 288 (M.2 403 i0) x5))]) (M' := M) rfl trivial ?_
      refine Wp.call (rat_403) rfl rfl (by decide) ?_
      rintro v_ M_ ⟨eM_, ev_⟩
      rw [eM_, ev_]
      clear eM_ ev_ v_ M_
      show Wp 1 309 66 [some (.inr (.inr (3, i0))), some (.inl x1), some (.inl x2), some (.inl x3), some (.inl x4), some (.inl x5)] [.inr (.inl (atJ 288 (M.2 403 i0) x1)), .inr (.inl (atJ 288 (M.2 403 i0) x5))] M (rI Q)
      refine Wp.path (k := 2) [] (C := []) (pc' := 68) (ls' := [some (.inr (.inr (3, i0))), some (.inl x1), some (.inl x2), some (.inl x3), some (.inl x4), some (.inl x5)]) (st' := [.inr (.inl (Int64.ofNat 0)), .inr (.inl ((atJ 288 (M.2 403 i0) x5) &&& (atJ 288 (M.2 403 i0) x1)))]) (M' := M) rfl trivial ?_
      rcases Decidable.em ((atJ 288 (M.2 403 i0) x5) &&& (atJ 288 (M.2 403 i0) x1) = Int64.ofNat 0) with c_3 | c_3
      · replace h := h.1 c_3
        refine Wp.path (k := 2) [1] (C := [lcm ((atJ 288 (M.2 403 i0) x5) &&& (atJ 288 (M.2 403 i0) x1)) (Int64.ofNat 0) = 0]) (pc' := 98) (ls' := [some (.inr (.inr (3, i0))), some (.inl x1), some (.inl x2), some (.inl x3), some (.inl x4), some (.inl x5)]) (st' := []) (M' := M) rfl (lcm_e c_3) ?_
        refine Wp.path (k := 2) [] (C := [inR (x5 + 1)]) (pc' := 30) (ls' := [some (.inr (.inr (3, i0))), some (.inl x1), some (.inl x2), some (.inl x3), some (.inl x4), some (.inl (x5 + 1))]) (st' := []) (M' := M) rfl h.1 ?_
        replace h := h.2
        exact h
      · replace h := h.2 c_3
        refine Wp.path (k := 2) [0] (C := [lcm ((atJ 288 (M.2 403 i0) x5) &&& (atJ 288 (M.2 403 i0) x1)) (Int64.ofNat 0) ≠ 0]) (pc' := 72) (ls' := [some (.inr (.inr (3, i0))), some (.inl x1), some (.inl x2), some (.inl x3), some (.inl x4), some (.inl x5)]) (st' := []) (M' := M) rfl (lcm_n c_3) ?_
        refine Wp.path (k := 5) [] (C := []) (pc' := 82) (ls' := [some (.inr (.inr (3, i0))), some (.inl x1), some (.inl x2), some (.inl x3), some (.inl x4), some (.inl x5)]) (st' := [.inl (M.1 3 i0 10), .inl x5, .inr (.inr (405, i0))]) (M' := M) rfl trivial ?_
        refine Wp.call (put_405) rfl rfl (by decide) ?_
        rintro v_ M_ ⟨eM_, ev_⟩
        rw [eM_, ev_]
        clear eM_ ev_ v_ M_
        refine Bd (e := setA M 405 i0 (putN 288 (M.1 405 i0) x5 (M.1 3 i0 10))) (P := fun M1 : Mm => Wp 1 309 85 [some (.inr (.inr (3, i0))), some (.inl x1), some (.inl x2), some (.inl x3), some (.inl x4), some (.inl x5)] [] M1 (rI Q)) ?_
        intro M1 e_M1
        replace h := h M1 e_M1
        refine Wp.path (k := 4) [] (C := []) (pc' := 92) (ls' := [some (.inr (.inr (3, i0))), some (.inl x1), some (.inl x2), some (.inl x3), some (.inl x4), some (.inl x5)]) (st' := [.inl x5, .inl x3, .inr (.inr (406, i0))]) (M' := M1) rfl trivial ?_
        refine Wp.call (put_406) rfl rfl (by decide) ?_
        rintro v_ M_ ⟨eM_, ev_⟩
        rw [eM_, ev_]
        clear eM_ ev_ v_ M_
        refine Bd (e := setA M1 406 i0 (putN 288 (M1.1 406 i0) x3 x5)) (P := fun M1_1 : Mm => Wp 1 309 95 [some (.inr (.inr (3, i0))), some (.inl x1), some (.inl x2), some (.inl x3), some (.inl x4), some (.inl x5)] [] M1_1 (rI Q)) ?_
        intro M1_1 e_M1_1
        replace h := h M1_1 e_M1_1
        refine Wp.path (k := 3) [] (C := [inR (x3 + 1), inR (x5 + 1)]) (pc' := 30) (ls' := [some (.inr (.inr (3, i0))), some (.inl x1), some (.inl x2), some (.inl (x3 + 1)), some (.inl x4), some (.inl (x5 + 1))]) (st' := []) (M' := M1_1) rfl ⟨h.1.1, h.1.2⟩ ?_
        replace h := h.2
        exact h
    · replace h := h.1 c_2
      refine Wp.path (k := 1) [1] (C := [0 ≤ atN 288 (M.1 405 i0) x5]) (pc' := 98) (ls' := [some (.inr (.inr (3, i0))), some (.inl x1), some (.inl x2), some (.inl x3), some (.inl x4), some (.inl x5)]) (st' := []) (M' := M) rfl c_2 ?_
      refine Wp.path (k := 2) [] (C := [inR (x5 + 1)]) (pc' := 30) (ls' := [some (.inr (.inr (3, i0))), some (.inl x1), some (.inl x2), some (.inl x3), some (.inl x4), some (.inl (x5 + 1))]) (st' := []) (M' := M) rfl h.1 ?_
      replace h := h.2
      exact h
  · replace h := h.1 c_1
    refine Wp.path (k := 1) [1] (C := [x4 ≤ x5]) (pc' := 104) (ls' := [some (.inr (.inr (3, i0))), some (.inl x1), some (.inl x2), some (.inl x3), some (.inl x4), some (.inl x5)]) (st' := []) (M' := M) rfl c_1 ?_
    refine Wp.path (k := 1) [] (C := []) (pc' := 105) (ls' := [some (.inr (.inr (3, i0))), some (.inl x1), some (.inl x2), some (.inl x3), some (.inl x4), some (.inl x5)]) (st' := [.inl x3]) (M' := M) rfl trivial ?_
    exact Wp.ret rfl ⟨_, rfl, h⟩
/-- X3_labelFrom -/
def E_308 (i0 : Nat) (x1 : Int) (M : Mm) (Q : Mm → Prop) : Prop := Ev 2 308 [.inr (.inr (3, i0)), .inl x1] M (rV Q)
theorem m_308 {i0 : Nat} {x1 : Int} {M : Mm} {Q Q1 : Mm → Prop} (h : E_308 i0 x1 M Q) (k : (∀ M1, Q M1 → Q1 M1)) : E_308 i0 x1 M Q1 := Ev.mono h (fun v M1 h => ⟨h.1, k _ h.2⟩)
def L_308_25 (i0 : Nat) (x1 : Int) (x2 : Int) (x3 : Int) (M : Mm) (Q : Mm → Prop) : Prop := ∀ o4 : Option Vv, Wp 2 308 25 [some (.inr (.inr (3, i0))), some (.inl x1), some (.inl x2), some (.inl x3), o4] [] M (rV Q)
theorem s_308_0 {i0 : Nat} {x1 : Int} {M : Mm} {Q : Mm → Prop} (h : (∀ M1 : Mm, M1 = setA M 405 i0 (putN 288 (M.1 405 i0) x1 (M.1 3 i0 10)) → (∀ M1_1 : Mm, M1_1 = setA M1 406 i0 (putN 288 (M1.1 406 i0) 0 x1) → (L_308_25 i0 x1 1 0 M1_1 Q)))) : E_308 i0 x1 M Q := by
  show Wp 2 308 0 [some (.inr (.inr (3, i0))), some (.inl x1), none, none, none] [] M (rV Q)
  refine Wp.path (k := 5) [] (C := []) (pc' := 9) (ls' := [some (.inr (.inr (3, i0))), some (.inl x1), none, none, none]) (st' := [.inl (M.1 3 i0 10), .inl x1, .inr (.inr (405, i0))]) (M' := M) rfl trivial ?_
  refine Wp.call (put_405) rfl rfl (by decide) ?_
  rintro v_ M_ ⟨eM_, ev_⟩
  rw [eM_, ev_]
  clear eM_ ev_ v_ M_
  refine Bd (e := setA M 405 i0 (putN 288 (M.1 405 i0) x1 (M.1 3 i0 10))) (P := fun M1 : Mm => Wp 2 308 12 [some (.inr (.inr (3, i0))), some (.inl x1), none, none, none] [] M1 (rV Q)) ?_
  intro M1 e_M1
  replace h := h M1 e_M1
  refine Wp.path (k := 4) [] (C := []) (pc' := 18) (ls' := [some (.inr (.inr (3, i0))), some (.inl x1), none, none, none]) (st' := [.inl x1, .inl 0, .inr (.inr (406, i0))]) (M' := M1) rfl trivial ?_
  refine Wp.call (put_406) rfl rfl (by decide) ?_
  rintro v_ M_ ⟨eM_, ev_⟩
  rw [eM_, ev_]
  clear eM_ ev_ v_ M_
  refine Bd (e := setA M1 406 i0 (putN 288 (M1.1 406 i0) 0 x1)) (P := fun M1_1 : Mm => Wp 2 308 21 [some (.inr (.inr (3, i0))), some (.inl x1), none, none, none] [] M1_1 (rV Q)) ?_
  intro M1_1 e_M1_1
  replace h := h M1_1 e_M1_1
  refine Wp.path (k := 4) [] (C := []) (pc' := 25) (ls' := [some (.inr (.inr (3, i0))), some (.inl x1), some (.inl 1), some (.inl 0), none]) (st' := []) (M' := M1_1) rfl trivial ?_
  exact h _
theorem s_308_25 {i0 : Nat} {x1 : Int} {x2 : Int} {x3 : Int} {M : Mm} {Q : Mm → Prop} (h : ((x2 ≤ x3 → (Q M)) ∧ (x3 < x2 → ((288 ≤ x3 → (Q M)) ∧ (x3 < 288 → (((0 ≤ x3 ∧ x3 < 288)) ∧ (∀ x4 : Int, x4 = M.1 406 i0 x3.toNat → (((-2147483648 ≤ (atN 288 (M.1 404 i0) x4) - 1 ∧ (atN 288 (M.1 404 i0) x4) - 1 ≤ 2147483647)) ∧ (E_309 i0 x4 ((atN 288 (M.1 404 i0) x4) - 1) x2 M (fun (r : Int) (M1 : Mm) => (((-2147483648 ≤ (atN 288 (M1.1 404 i0) x4) + 1 ∧ (atN 288 (M1.1 404 i0) x4) + 1 ≤ 2147483647)) ∧ (E_309 i0 x4 ((atN 288 (M1.1 404 i0) x4) + 1) r M1 (fun (r_1 : Int) (M1_1 : Mm) => ((-2147483648 ≤ x3 + 1 ∧ x3 + 1 ≤ 2147483647)) ∧ (L_308_25 i0 x1 r_1 (x3 + 1) M1_1 Q)))))))))))))) : L_308_25 i0 x1 x2 x3 M Q := by
  intro o4
  show Wp 2 308 25 [some (.inr (.inr (3, i0))), some (.inl x1), some (.inl x2), some (.inl x3), o4] [] M (rV Q)
  refine Wp.path (k := 2) [] (C := []) (pc' := 27) (ls' := [some (.inr (.inr (3, i0))), some (.inl x1), some (.inl x2), some (.inl x3), o4]) (st' := [.inl x2, .inl x3]) (M' := M) rfl trivial ?_
  rcases Int.lt_or_le (x3) (x2) with c_1 | c_1
  · replace h := h.2 c_1
    refine Wp.path (k := 1) [0] (C := [x3 < x2]) (pc' := 30) (ls' := [some (.inr (.inr (3, i0))), some (.inl x1), some (.inl x2), some (.inl x3), o4]) (st' := []) (M' := M) rfl c_1 ?_
    refine Wp.path (k := 4) [] (C := []) (pc' := 36) (ls' := [some (.inr (.inr (3, i0))), some (.inl x1), some (.inl x2), some (.inl x3), o4]) (st' := [.inl 288, .inl x3]) (M' := M) rfl trivial ?_
    rcases Int.lt_or_le (x3) (288) with c_2 | c_2
    · replace h := h.2 c_2
      refine Wp.path (k := 1) [0] (C := [x3 < 288]) (pc' := 39) (ls' := [some (.inr (.inr (3, i0))), some (.inl x1), some (.inl x2), some (.inl x3), o4]) (st' := []) (M' := M) rfl c_2 ?_
      refine Wp.path (k := 5) [] (C := [0 ≤ x3 ∧ x3 < 288]) (pc' := 47) (ls' := [some (.inr (.inr (3, i0))), some (.inl x1), some (.inl x2), some (.inl x3), some (.inl (M.1 406 i0 x3.toNat))]) (st' := []) (M' := M) rfl h.1 ?_
      replace h := h.2
      refine Bd (P := fun x4 : Int => Wp 2 308 47 [some (.inr (.inr (3, i0))), some (.inl x1), some (.inl x2), some (.inl x3), some (.inl x4)] [] M (rV Q)) ?_
      intro x4 e_x4
      replace h := h x4 e_x4
      refine Wp.path (k := 5) [] (C := []) (pc' := 56) (ls' := [some (.inr (.inr (3, i0))), some (.inl x1), some (.inl x2), some (.inl x3), some (.inl x4)]) (st' := [.inl x4, .inr (.inr (404, i0)), .inl x4, .inr (.inr (3, i0))]) (M' := M) rfl trivial ?_
      refine Wp.call (at_404) rfl rfl (by decide) ?_
      rintro v_ M_ ⟨eM_, ev_⟩
      rw [eM_, ev_]
      clear eM_ ev_ v_ M_
      show Wp 2 308 59 [some (.inr (.inr (3, i0))), some (.inl x1), some (.inl x2), some (.inl x3), some (.inl x4)] [.inl (atN 288 (M.1 404 i0) x4), .inl x4, .inr (.inr (3, i0))] M (rV Q)
      refine Wp.path (k := 3) [] (C := [inR ((atN 288 (M.1 404 i0) x4) - 1)]) (pc' := 62) (ls' := [some (.inr (.inr (3, i0))), some (.inl x1), some (.inl x2), some (.inl x3), some (.inl x4)]) (st' := [.inl x2, .inl ((atN 288 (M.1 404 i0) x4) - 1), .inl x4, .inr (.inr (3, i0))]) (M' := M) rfl h.1 ?_
      replace h := h.2
      refine Wp.call h rfl rfl (by decide) ?_
      rintro _ M1 ⟨r, rfl, h⟩
      show Wp 2 308 65 [some (.inr (.inr (3, i0))), some (.inl x1), some (.inl x2), some (.inl x3), some (.inl x4)] [.inl r] M1 (rV Q)
      refine Wp.path (k := 6) [] (C := []) (pc' := 75) (ls' := [some (.inr (.inr (3, i0))), some (.inl x1), some (.inl r), some (.inl x3), some (.inl x4)]) (st' := [.inl x4, .inr (.inr (404, i0)), .inl x4, .inr (.inr (3, i0))]) (M' := M1) rfl trivial ?_
      refine Wp.call (at_404) rfl rfl (by decide) ?_
      rintro v_ M_ ⟨eM_, ev_⟩
      rw [eM_, ev_]
      clear eM_ ev_ v_ M_
      show Wp 2 308 78 [some (.inr (.inr (3, i0))), some (.inl x1), some (.inl r), some (.inl x3), some (.inl x4)] [.inl (atN 288 (M1.1 404 i0) x4), .inl x4, .inr (.inr (3, i0))] M1 (rV Q)
      refine Wp.path (k := 3) [] (C := [inR ((atN 288 (M1.1 404 i0) x4) + 1)]) (pc' := 81) (ls' := [some (.inr (.inr (3, i0))), some (.inl x1), some (.inl r), some (.inl x3), some (.inl x4)]) (st' := [.inl r, .inl ((atN 288 (M1.1 404 i0) x4) + 1), .inl x4, .inr (.inr (3, i0))]) (M' := M1) rfl h.1 ?_
      replace h := h.2
      refine Wp.call h rfl rfl (by decide) ?_
      rintro _ M1_1 ⟨r_1, rfl, h⟩
      show Wp 2 308 84 [some (.inr (.inr (3, i0))), some (.inl x1), some (.inl r), some (.inl x3), some (.inl x4)] [.inl r_1] M1_1 (rV Q)
      refine Wp.path (k := 3) [] (C := [inR (x3 + 1)]) (pc' := 25) (ls' := [some (.inr (.inr (3, i0))), some (.inl x1), some (.inl r_1), some (.inl (x3 + 1)), some (.inl x4)]) (st' := []) (M' := M1_1) rfl h.1 ?_
      replace h := h.2
      exact h _
    · replace h := h.1 c_2
      refine Wp.path (k := 1) [1] (C := [288 ≤ x3]) (pc' := 91) (ls' := [some (.inr (.inr (3, i0))), some (.inl x1), some (.inl x2), some (.inl x3), o4]) (st' := []) (M' := M) rfl c_2 ?_
      exact Wp.ret rfl ⟨rfl, h⟩
  · replace h := h.1 c_1
    refine Wp.path (k := 1) [1] (C := [x2 ≤ x3]) (pc' := 91) (ls' := [some (.inr (.inr (3, i0))), some (.inl x1), some (.inl x2), some (.inl x3), o4]) (st' := []) (M' := M) rfl c_1 ?_
    exact Wp.ret rfl ⟨rfl, h⟩
/-- X3_link -/
def E_310 (i0 : Nat) (i1 : Nat) (x2 : Int) (M : Mm) (Q : Mm → Prop) : Prop := Ev 2 310 [.inr (.inr (3, i0)), .inr (.inr (3, i1)), .inl x2] M (rV Q)
theorem m_310 {i0 : Nat} {i1 : Nat} {x2 : Int} {M : Mm} {Q Q1 : Mm → Prop} (h : E_310 i0 i1 x2 M Q) (k : (∀ M1, Q M1 → Q1 M1)) : E_310 i0 i1 x2 M Q1 := Ev.mono h (fun v M1 h => ⟨h.1, k _ h.2⟩)
theorem s_310_0 {i0 : Nat} {i1 : Nat} {x2 : Int} {M : Mm} {Q : Mm → Prop} (h : (∀ x3 : Int, x3 = lowV (atJ 288 (M.2 403 i0) x2) → (((-2147483648 ≤ (atN 288 (M.1 404 i0) x2) * 48 ∧ (atN 288 (M.1 404 i0) x2) * 48 ≤ 2147483647) ∧ (-2147483648 ≤ ((atN 288 (M.1 404 i0) x2) * 48) + x3 ∧ ((atN 288 (M.1 404 i0) x2) * 48) + x3 ≤ 2147483647)) ∧ (E_311 i1 (((atN 288 (M.1 404 i0) x2) * 48) + x3) M (fun (r : Int) (M1 : Mm) => (∀ M1_1 : Mm, M1_1 = setA M1 407 i0 (putN 72 (M1.1 407 i0) (M1.1 3 i0 10) r) → (((-2147483648 ≤ (atN 72 (M1_1.1 408 i1) r) + 1 ∧ (atN 72 (M1_1.1 408 i1) r) + 1 ≤ 2147483647)) ∧ (∀ M1_2 : Mm, M1_2 = setA M1_1 408 i1 (putN 72 (M1_1.1 408 i1) r ((atN 72 (M1_1.1 408 i1) r) + 1)) → (Q M1_2))))))))) : E_310 i0 i1 x2 M Q := by
  show Wp 2 310 0 [some (.inr (.inr (3, i0))), some (.inr (.inr (3, i1))), some (.inl x2), none, none] [] M (rV Q)
  refine Wp.path (k := 3) [] (C := []) (pc' := 5) (ls' := [some (.inr (.inr (3, i0))), some (.inr (.inr (3, i1))), some (.inl x2), none, none]) (st' := [.inl x2, .inr (.inr (403, i0))]) (M' := M) rfl trivial ?_
  refine Wp.call (rat_403) rfl rfl (by decide) ?_
  rintro v_ M_ ⟨eM_, ev_⟩
  rw [eM_, ev_]
  clear eM_ ev_ v_ M_
  show Wp 2 310 8 [some (.inr (.inr (3, i0))), some (.inr (.inr (3, i1))), some (.inl x2), none, none] [.inr (.inl (atJ 288 (M.2 403 i0) x2))] M (rV Q)
  refine Wp.call (e944) rfl rfl (by decide) ?_
  rintro v_ M_ ⟨eM_, ev_⟩
  rw [eM_, ev_]
  clear eM_ ev_ v_ M_
  show Wp 2 310 11 [some (.inr (.inr (3, i0))), some (.inr (.inr (3, i1))), some (.inl x2), none, none] [.inl (lowV (atJ 288 (M.2 403 i0) x2))] M (rV Q)
  refine Wp.path (k := 1) [] (C := []) (pc' := 12) (ls' := [some (.inr (.inr (3, i0))), some (.inr (.inr (3, i1))), some (.inl x2), some (.inl (lowV (atJ 288 (M.2 403 i0) x2))), none]) (st' := []) (M' := M) rfl trivial ?_
  refine Bd (P := fun x3 : Int => Wp 2 310 12 [some (.inr (.inr (3, i0))), some (.inr (.inr (3, i1))), some (.inl x2), some (.inl x3), none] [] M (rV Q)) ?_
  intro x3 e_x3
  replace h := h x3 e_x3
  refine Wp.path (k := 4) [] (C := []) (pc' := 18) (ls' := [some (.inr (.inr (3, i0))), some (.inr (.inr (3, i1))), some (.inl x2), some (.inl x3), none]) (st' := [.inl x2, .inr (.inr (404, i0)), .inr (.inr (3, i1))]) (M' := M) rfl trivial ?_
  refine Wp.call (at_404) rfl rfl (by decide) ?_
  rintro v_ M_ ⟨eM_, ev_⟩
  rw [eM_, ev_]
  clear eM_ ev_ v_ M_
  show Wp 2 310 21 [some (.inr (.inr (3, i0))), some (.inr (.inr (3, i1))), some (.inl x2), some (.inl x3), none] [.inl (atN 288 (M.1 404 i0) x2), .inr (.inr (3, i1))] M (rV Q)
  refine Wp.path (k := 4) [] (C := [inR ((atN 288 (M.1 404 i0) x2) * 48), inR (((atN 288 (M.1 404 i0) x2) * 48) + x3)]) (pc' := 26) (ls' := [some (.inr (.inr (3, i0))), some (.inr (.inr (3, i1))), some (.inl x2), some (.inl x3), none]) (st' := [.inl (((atN 288 (M.1 404 i0) x2) * 48) + x3), .inr (.inr (3, i1))]) (M' := M) rfl ⟨h.1.1, h.1.2⟩ ?_
  replace h := h.2
  refine Wp.call h rfl rfl (by decide) ?_
  rintro _ M1 ⟨r, rfl, h⟩
  show Wp 2 310 29 [some (.inr (.inr (3, i0))), some (.inr (.inr (3, i1))), some (.inl x2), some (.inl x3), none] [.inl r] M1 (rV Q)
  refine Wp.path (k := 6) [] (C := []) (pc' := 41) (ls' := [some (.inr (.inr (3, i0))), some (.inr (.inr (3, i1))), some (.inl x2), some (.inl x3), some (.inl r)]) (st' := [.inl r, .inl (M1.1 3 i0 10), .inr (.inr (407, i0))]) (M' := M1) rfl trivial ?_
  refine Wp.call (put_407) rfl rfl (by decide) ?_
  rintro v_ M_ ⟨eM_, ev_⟩
  rw [eM_, ev_]
  clear eM_ ev_ v_ M_
  refine Bd (e := setA M1 407 i0 (putN 72 (M1.1 407 i0) (M1.1 3 i0 10) r)) (P := fun M1_1 : Mm => Wp 2 310 44 [some (.inr (.inr (3, i0))), some (.inr (.inr (3, i1))), some (.inl x2), some (.inl x3), some (.inl r)] [] M1_1 (rV Q)) ?_
  intro M1_1 e_M1_1
  replace h := h M1_1 e_M1_1
  refine Wp.path (k := 5) [] (C := []) (pc' := 53) (ls' := [some (.inr (.inr (3, i0))), some (.inr (.inr (3, i1))), some (.inl x2), some (.inl x3), some (.inl r)]) (st' := [.inl r, .inr (.inr (3, i1)), .inl r, .inr (.inr (408, i1))]) (M' := M1_1) rfl trivial ?_
  refine Wp.call (e313) rfl rfl (by decide) ?_
  rintro v_ M_ ⟨eM_, ev_⟩
  rw [eM_, ev_]
  clear eM_ ev_ v_ M_
  show Wp 2 310 56 [some (.inr (.inr (3, i0))), some (.inr (.inr (3, i1))), some (.inl x2), some (.inl x3), some (.inl r)] [.inl (atN 72 (M1_1.1 408 i1) r), .inl r, .inr (.inr (408, i1))] M1_1 (rV Q)
  refine Wp.path (k := 2) [] (C := [inR ((atN 72 (M1_1.1 408 i1) r) + 1)]) (pc' := 58) (ls' := [some (.inr (.inr (3, i0))), some (.inr (.inr (3, i1))), some (.inl x2), some (.inl x3), some (.inl r)]) (st' := [.inl ((atN 72 (M1_1.1 408 i1) r) + 1), .inl r, .inr (.inr (408, i1))]) (M' := M1_1) rfl h.1 ?_
  replace h := h.2
  refine Wp.call (put_408) rfl rfl (by decide) ?_
  rintro v_ M_ ⟨eM_, ev_⟩
  rw [eM_, ev_]
  clear eM_ ev_ v_ M_
  refine Bd (e := setA M1_1 408 i1 (putN 72 (M1_1.1 408 i1) r ((atN 72 (M1_1.1 408 i1) r) + 1))) (P := fun M1_2 : Mm => Wp 2 310 61 [some (.inr (.inr (3, i0))), some (.inr (.inr (3, i1))), some (.inl x2), some (.inl x3), some (.inl r)] [] M1_2 (rV Q)) ?_
  intro M1_2 e_M1_2
  replace h := h M1_2 e_M1_2
  exact Wp.ret rfl ⟨rfl, h⟩
/-- X3_build -/
def E_304 (i0 : Nat) (i1 : Nat) (M : Mm) (Q : Mm → Prop) : Prop := Ev 4 304 [.inr (.inr (3, i0)), .inr (.inr (3, i1))] M (rV Q)
theorem m_304 {i0 : Nat} {i1 : Nat} {M : Mm} {Q Q1 : Mm → Prop} (h : E_304 i0 i1 M Q) (k : (∀ M1, Q M1 → Q1 M1)) : E_304 i0 i1 M Q1 := Ev.mono h (fun v M1 h => ⟨h.1, k _ h.2⟩)
def L_304_19 (i0 : Nat) (i1 : Nat) (x2 : Int) (M : Mm) (Q : Mm → Prop) : Prop := Wp 4 304 19 [some (.inr (.inr (3, i0))), some (.inr (.inr (3, i1))), some (.inl x2)] [] M (rV Q)
theorem s_304_0 {i0 : Nat} {i1 : Nat} {M : Mm} {Q : Mm → Prop} (h : (E_305 i0 M (fun M1 : Mm => (∀ M1_1 : Mm, M1_1 = setI M1 3 i0 10 0 → (∀ M1_2 : Mm, M1_2 = setA M1_1 408 i0 (upTo (fun _ => 0) (M1_1.1 408 i0) 72) → (L_304_19 i0 i1 0 M1_2 Q)))))) : E_304 i0 i1 M Q := by
  show Wp 4 304 0 [some (.inr (.inr (3, i0))), some (.inr (.inr (3, i1))), none] [] M (rV Q)
  refine Wp.path (k := 1) [] (C := []) (pc' := 1) (ls' := [some (.inr (.inr (3, i0))), some (.inr (.inr (3, i1))), none]) (st' := [.inr (.inr (3, i0))]) (M' := M) rfl trivial ?_
  refine Wp.call h rfl rfl (by decide) ?_
  rintro _ M1 ⟨rfl, h⟩
  show Wp 4 304 4 [some (.inr (.inr (3, i0))), some (.inr (.inr (3, i1))), none] [] M1 (rV Q)
  refine Wp.path (k := 3) [] (C := []) (pc' := 9) (ls' := [some (.inr (.inr (3, i0))), some (.inr (.inr (3, i1))), none]) (st' := []) (M' := setI M1 3 i0 10 0) rfl trivial ?_
  refine Bd (P := fun M1_1 : Mm => Wp 4 304 9 [some (.inr (.inr (3, i0))), some (.inr (.inr (3, i1))), none] [] M1_1 (rV Q)) ?_
  intro M1_1 e_M1_1
  replace h := h M1_1 e_M1_1
  refine Wp.path (k := 3) [] (C := []) (pc' := 14) (ls' := [some (.inr (.inr (3, i0))), some (.inr (.inr (3, i1))), none]) (st' := [.inl 0, .inr (.inr (408, i0))]) (M' := M1_1) rfl trivial ?_
  refine Wp.call (fill_408) rfl rfl (by decide) ?_
  rintro v_ M_ ⟨eM_, ev_⟩
  rw [eM_, ev_]
  clear eM_ ev_ v_ M_
  refine Bd (e := setA M1_1 408 i0 (upTo (fun _ => 0) (M1_1.1 408 i0) 72)) (P := fun M1_2 : Mm => Wp 4 304 17 [some (.inr (.inr (3, i0))), some (.inr (.inr (3, i1))), none] [] M1_2 (rV Q)) ?_
  intro M1_2 e_M1_2
  replace h := h M1_2 e_M1_2
  refine Wp.path (k := 2) [] (C := []) (pc' := 19) (ls' := [some (.inr (.inr (3, i0))), some (.inr (.inr (3, i1))), some (.inl 0)]) (st' := []) (M' := M1_2) rfl trivial ?_
  exact h
theorem s_304_19 {i0 : Nat} {i1 : Nat} {x2 : Int} {M : Mm} {Q : Mm → Prop} (h : ((M.1 3 i0 9 ≤ x2 → (E_201 i0 i0 M (fun M1_3 : Mm => (Q M1_3)))) ∧ (x2 < M.1 3 i0 9 → ((0 ≤ atN 288 (M.1 405 i0) x2 → (((-2147483648 ≤ x2 + 1 ∧ x2 + 1 ≤ 2147483647)) ∧ (L_304_19 i0 i1 (x2 + 1) M Q))) ∧ (atN 288 (M.1 405 i0) x2 < 0 → (E_308 i0 x2 M (fun M1 : Mm => (E_310 i0 i1 x2 M1 (fun M1_1 : Mm => ((-2147483648 ≤ (M1_1.1 3 i0 10) + 1 ∧ (M1_1.1 3 i0 10) + 1 ≤ 2147483647)) ∧ (∀ M1_2 : Mm, M1_2 = setI M1_1 3 i0 10 ((M1_1.1 3 i0 10) + 1) → (((-2147483648 ≤ x2 + 1 ∧ x2 + 1 ≤ 2147483647)) ∧ (L_304_19 i0 i1 (x2 + 1) M1_2 Q)))))))))))) : L_304_19 i0 i1 x2 M Q := by
  show Wp 4 304 19 [some (.inr (.inr (3, i0))), some (.inr (.inr (3, i1))), some (.inl x2)] [] M (rV Q)
  refine Wp.path (k := 3) [] (C := []) (pc' := 24) (ls' := [some (.inr (.inr (3, i0))), some (.inr (.inr (3, i1))), some (.inl x2)]) (st' := [.inl (M.1 3 i0 9), .inl x2]) (M' := M) rfl trivial ?_
  rcases Int.lt_or_le (x2) (M.1 3 i0 9) with c_1 | c_1
  · replace h := h.2 c_1
    refine Wp.path (k := 1) [0] (C := [x2 < M.1 3 i0 9]) (pc' := 27) (ls' := [some (.inr (.inr (3, i0))), some (.inr (.inr (3, i1))), some (.inl x2)]) (st' := []) (M' := M) rfl c_1 ?_
    refine Wp.path (k := 3) [] (C := []) (pc' := 32) (ls' := [some (.inr (.inr (3, i0))), some (.inr (.inr (3, i1))), some (.inl x2)]) (st' := [.inl x2, .inr (.inr (405, i0))]) (M' := M) rfl trivial ?_
    refine Wp.call (at_405) rfl rfl (by decide) ?_
    rintro v_ M_ ⟨eM_, ev_⟩
    rw [eM_, ev_]
    clear eM_ ev_ v_ M_
    show Wp 4 304 35 [some (.inr (.inr (3, i0))), some (.inr (.inr (3, i1))), some (.inl x2)] [.inl (atN 288 (M.1 405 i0) x2)] M (rV Q)
    rcases Int.lt_or_le (atN 288 (M.1 405 i0) x2) (0) with c_2 | c_2
    · replace h := h.2 c_2
      refine Wp.path (k := 1) [0] (C := [atN 288 (M.1 405 i0) x2 < 0]) (pc' := 38) (ls' := [some (.inr (.inr (3, i0))), some (.inr (.inr (3, i1))), some (.inl x2)]) (st' := []) (M' := M) rfl c_2 ?_
      refine Wp.path (k := 2) [] (C := []) (pc' := 40) (ls' := [some (.inr (.inr (3, i0))), some (.inr (.inr (3, i1))), some (.inl x2)]) (st' := [.inl x2, .inr (.inr (3, i0))]) (M' := M) rfl trivial ?_
      refine Wp.call h rfl rfl (by decide) ?_
      rintro _ M1 ⟨rfl, h⟩
      show Wp 4 304 43 [some (.inr (.inr (3, i0))), some (.inr (.inr (3, i1))), some (.inl x2)] [] M1 (rV Q)
      refine Wp.path (k := 3) [] (C := []) (pc' := 46) (ls' := [some (.inr (.inr (3, i0))), some (.inr (.inr (3, i1))), some (.inl x2)]) (st' := [.inl x2, .inr (.inr (3, i1)), .inr (.inr (3, i0))]) (M' := M1) rfl trivial ?_
      refine Wp.call h rfl rfl (by decide) ?_
      rintro _ M1_1 ⟨rfl, h⟩
      show Wp 4 304 49 [some (.inr (.inr (3, i0))), some (.inr (.inr (3, i1))), some (.inl x2)] [] M1_1 (rV Q)
      refine Wp.path (k := 6) [] (C := [inR ((M1_1.1 3 i0 10) + 1)]) (pc' := 59) (ls' := [some (.inr (.inr (3, i0))), some (.inr (.inr (3, i1))), some (.inl x2)]) (st' := []) (M' := setI M1_1 3 i0 10 ((M1_1.1 3 i0 10) + 1)) rfl h.1 ?_
      replace h := h.2
      refine Bd (P := fun M1_2 : Mm => Wp 4 304 59 [some (.inr (.inr (3, i0))), some (.inr (.inr (3, i1))), some (.inl x2)] [] M1_2 (rV Q)) ?_
      intro M1_2 e_M1_2
      replace h := h M1_2 e_M1_2
      refine Wp.path (k := 2) [] (C := [inR (x2 + 1)]) (pc' := 19) (ls' := [some (.inr (.inr (3, i0))), some (.inr (.inr (3, i1))), some (.inl (x2 + 1))]) (st' := []) (M' := M1_2) rfl h.1 ?_
      replace h := h.2
      exact h
    · replace h := h.1 c_2
      refine Wp.path (k := 1) [1] (C := [0 ≤ atN 288 (M.1 405 i0) x2]) (pc' := 59) (ls' := [some (.inr (.inr (3, i0))), some (.inr (.inr (3, i1))), some (.inl x2)]) (st' := []) (M' := M) rfl c_2 ?_
      refine Wp.path (k := 2) [] (C := [inR (x2 + 1)]) (pc' := 19) (ls' := [some (.inr (.inr (3, i0))), some (.inr (.inr (3, i1))), some (.inl (x2 + 1))]) (st' := []) (M' := M) rfl h.1 ?_
      replace h := h.2
      exact h
  · replace h := h.1 c_1
    refine Wp.path (k := 1) [1] (C := [M.1 3 i0 9 ≤ x2]) (pc' := 65) (ls' := [some (.inr (.inr (3, i0))), some (.inr (.inr (3, i1))), some (.inl x2)]) (st' := []) (M' := M) rfl c_1 ?_
    refine Wp.path (k := 3) [] (C := []) (pc' := 70) (ls' := [some (.inr (.inr (3, i0))), some (.inr (.inr (3, i1))), some (.inl x2)]) (st' := [.inr (.inr (3, i0)), .inr (.inr (2, i0))]) (M' := M) rfl trivial ?_
    refine Wp.call h rfl rfl (by decide) ?_
    rintro _ M1_3 ⟨rfl, h⟩
    show Wp 4 304 73 [some (.inr (.inr (3, i0))), some (.inr (.inr (3, i1))), some (.inl x2)] [] M1_3 (rV Q)
    exact Wp.ret rfl ⟨rfl, h⟩
/-- X3_firstChildOf -/
def E_314 (i0 : Nat) (x1 : Int) (M : Mm) (Q : Int → Mm → Prop) : Prop := Ev 2 314 [.inr (.inr (3, i0)), .inl x1] M (rI Q)
theorem m_314 {i0 : Nat} {x1 : Int} {M : Mm} {Q Q1 : Int → Mm → Prop} (h : E_314 i0 x1 M Q) (k : (∀ r M1, Q r M1 → Q1 r M1)) : E_314 i0 x1 M Q1 := Ev.mono h (fun v M1 ⟨r, h1, h2⟩ => ⟨r, h1, k _ _ h2⟩)
def L_314_2 (i0 : Nat) (x1 : Int) (x2 : Int) (M : Mm) (Q : Int → Mm → Prop) : Prop := Wp 2 314 2 [some (.inr (.inr (3, i0))), some (.inl x1), some (.inl x2)] [] M (rI Q)
theorem s_314_0 {i0 : Nat} {x1 : Int} {M : Mm} {Q : Int → Mm → Prop} (h : (L_314_2 i0 x1 0 M Q)) : E_314 i0 x1 M Q := by
  show Wp 2 314 0 [some (.inr (.inr (3, i0))), some (.inl x1), none] [] M (rI Q)
  refine Wp.path (k := 2) [] (C := []) (pc' := 2) (ls' := [some (.inr (.inr (3, i0))), some (.inl x1), some (.inl 0)]) (st' := []) (M' := M) rfl trivial ?_
  exact h
theorem s_314_2 {i0 : Nat} {x1 : Int} {x2 : Int} {M : Mm} {Q : Int → Mm → Prop} (h : ((M.1 3 i0 10 ≤ x2 → (Q (-1) M)) ∧ (x2 < M.1 3 i0 10 → ((parV (M.1 3 i0 10) (M.1 407 i0) x2 ≠ x1 → (((-2147483648 ≤ x2 + 1 ∧ x2 + 1 ≤ 2147483647)) ∧ (L_314_2 i0 x1 (x2 + 1) M Q))) ∧ (parV (M.1 3 i0 10) (M.1 407 i0) x2 = x1 → (Q x2 M)))))) : L_314_2 i0 x1 x2 M Q := by
  show Wp 2 314 2 [some (.inr (.inr (3, i0))), some (.inl x1), some (.inl x2)] [] M (rI Q)
  refine Wp.path (k := 3) [] (C := []) (pc' := 7) (ls' := [some (.inr (.inr (3, i0))), some (.inl x1), some (.inl x2)]) (st' := [.inl (M.1 3 i0 10), .inl x2]) (M' := M) rfl trivial ?_
  rcases Int.lt_or_le (x2) (M.1 3 i0 10) with c_1 | c_1
  · replace h := h.2 c_1
    refine Wp.path (k := 1) [0] (C := [x2 < M.1 3 i0 10]) (pc' := 10) (ls' := [some (.inr (.inr (3, i0))), some (.inl x1), some (.inl x2)]) (st' := []) (M' := M) rfl c_1 ?_
    refine Wp.path (k := 2) [] (C := []) (pc' := 12) (ls' := [some (.inr (.inr (3, i0))), some (.inl x1), some (.inl x2)]) (st' := [.inl x2, .inr (.inr (3, i0))]) (M' := M) rfl trivial ?_
    refine Wp.call (e312) rfl rfl (by decide) ?_
    rintro v_ M_ ⟨eM_, ev_⟩
    rw [eM_, ev_]
    clear eM_ ev_ v_ M_
    show Wp 2 314 15 [some (.inr (.inr (3, i0))), some (.inl x1), some (.inl x2)] [.inl (parV (M.1 3 i0 10) (M.1 407 i0) x2)] M (rI Q)
    refine Wp.path (k := 1) [] (C := []) (pc' := 16) (ls' := [some (.inr (.inr (3, i0))), some (.inl x1), some (.inl x2)]) (st' := [.inl x1, .inl (parV (M.1 3 i0 10) (M.1 407 i0) x2)]) (M' := M) rfl trivial ?_
    rcases Decidable.em (parV (M.1 3 i0 10) (M.1 407 i0) x2 = x1) with c_2 | c_2
    · replace h := h.2 c_2
      refine Wp.path (k := 1) [0] (C := [parV (M.1 3 i0 10) (M.1 407 i0) x2 = x1]) (pc' := 19) (ls' := [some (.inr (.inr (3, i0))), some (.inl x1), some (.inl x2)]) (st' := []) (M' := M) rfl c_2 ?_
      refine Wp.path (k := 1) [] (C := []) (pc' := 20) (ls' := [some (.inr (.inr (3, i0))), some (.inl x1), some (.inl x2)]) (st' := [.inl x2]) (M' := M) rfl trivial ?_
      exact Wp.ret rfl ⟨_, rfl, h⟩
    · replace h := h.1 c_2
      refine Wp.path (k := 1) [1] (C := [parV (M.1 3 i0 10) (M.1 407 i0) x2 ≠ x1]) (pc' := 21) (ls' := [some (.inr (.inr (3, i0))), some (.inl x1), some (.inl x2)]) (st' := []) (M' := M) rfl c_2 ?_
      refine Wp.path (k := 2) [] (C := [inR (x2 + 1)]) (pc' := 2) (ls' := [some (.inr (.inr (3, i0))), some (.inl x1), some (.inl (x2 + 1))]) (st' := []) (M' := M) rfl h.1 ?_
      replace h := h.2
      exact h
  · replace h := h.1 c_1
    refine Wp.path (k := 1) [1] (C := [M.1 3 i0 10 ≤ x2]) (pc' := 27) (ls' := [some (.inr (.inr (3, i0))), some (.inl x1), some (.inl x2)]) (st' := []) (M' := M) rfl c_1 ?_
    refine Wp.path (k := 1) [] (C := []) (pc' := 28) (ls' := [some (.inr (.inr (3, i0))), some (.inl x1), some (.inl x2)]) (st' := [.inl (-1)]) (M' := M) rfl trivial ?_
    exact Wp.ret rfl ⟨_, rfl, h⟩
/-- X4_size -/
def E_402 (i0 : Nat) (M : Mm) (Q : Int → Mm → Prop) : Prop := Ev 1 402 [.inr (.inr (4, i0))] M (rI Q)
theorem m_402 {i0 : Nat} {M : Mm} {Q Q1 : Int → Mm → Prop} (h : E_402 i0 M Q) (k : (∀ r M1, Q r M1 → Q1 r M1)) : E_402 i0 M Q1 := Ev.mono h (fun v M1 ⟨r, h1, h2⟩ => ⟨r, h1, k _ _ h2⟩)
def L_402_4 (i0 : Nat) (x1 : Int) (x2 : Int) (M : Mm) (Q : Int → Mm → Prop) : Prop := Wp 1 402 4 [some (.inr (.inr (4, i0))), some (.inl x1), some (.inl x2)] [] M (rI Q)
theorem s_402_0 {i0 : Nat} {M : Mm} {Q : Int → Mm → Prop} (h : (L_402_4 i0 0 0 M Q)) : E_402 i0 M Q := by
  show Wp 1 402 0 [some (.inr (.inr (4, i0))), none, none] [] M (rI Q)
  refine Wp.path (k := 4) [] (C := []) (pc' := 4) (ls' := [some (.inr (.inr (4, i0))), some (.inl 0), some (.inl 0)]) (st' := []) (M' := M) rfl trivial ?_
  exact h
theorem s_402_4 {i0 : Nat} {x1 : Int} {x2 : Int} {M : Mm} {Q : Int → Mm → Prop} (h : ((12 ≤ x2 → (Q x1 M)) ∧ (x2 < 12 → (((0 ≤ x2 ∧ x2 < 12)) ∧ ((0 ≤ (M.1 500 i0 x2.toNat) ∧ (M.1 500 i0 x2.toNat) < 4096) ∧ (((-2147483648 ≤ x1 + (cntB (bZ (M.1 500 i0 x2.toNat)) 12 : Int) ∧ x1 + (cntB (bZ (M.1 500 i0 x2.toNat)) 12 : Int) ≤ 2147483647)) ∧ (∀ x1_1 : Int, x1_1 = x1 + (cntB (bZ (M.1 500 i0 x2.toNat)) 12 : Int) → (((-2147483648 ≤ x2 + 1 ∧ x2 + 1 ≤ 2147483647)) ∧ (L_402_4 i0 x1_1 (x2 + 1) M Q))))))))) : L_402_4 i0 x1 x2 M Q := by
  show Wp 1 402 4 [some (.inr (.inr (4, i0))), some (.inl x1), some (.inl x2)] [] M (rI Q)
  refine Wp.path (k := 4) [] (C := []) (pc' := 10) (ls' := [some (.inr (.inr (4, i0))), some (.inl x1), some (.inl x2)]) (st' := [.inl 12, .inl x2]) (M' := M) rfl trivial ?_
  rcases Int.lt_or_le (x2) (12) with c_1 | c_1
  · replace h := h.2 c_1
    refine Wp.path (k := 1) [0] (C := [x2 < 12]) (pc' := 13) (ls' := [some (.inr (.inr (4, i0))), some (.inl x1), some (.inl x2)]) (st' := []) (M' := M) rfl c_1 ?_
    refine Wp.path (k := 5) [] (C := [0 ≤ x2 ∧ x2 < 12]) (pc' := 20) (ls' := [some (.inr (.inr (4, i0))), some (.inl x1), some (.inl x2)]) (st' := [.inl (M.1 500 i0 x2.toNat), .inl x1]) (M' := M) rfl h.1 ?_
    replace h := h.2
    refine Wp.call (e1100 h.1.1 h.1.2) rfl rfl (by decide) ?_
    replace h := h.2
    rintro v_ M_ ⟨eM_, ev_⟩
    rw [eM_, ev_]
    clear eM_ ev_ v_ M_
    show Wp 1 402 23 [some (.inr (.inr (4, i0))), some (.inl x1), some (.inl x2)] [.inl (cntB (bZ (M.1 500 i0 x2.toNat)) 12 : Int), .inl x1] M (rI Q)
    refine Wp.path (k := 2) [] (C := [inR (x1 + (cntB (bZ (M.1 500 i0 x2.toNat)) 12 : Int))]) (pc' := 25) (ls' := [some (.inr (.inr (4, i0))), some (.inl (x1 + (cntB (bZ (M.1 500 i0 x2.toNat)) 12 : Int))), some (.inl x2)]) (st' := []) (M' := M) rfl h.1 ?_
    replace h := h.2
    refine Bd (P := fun x1_1 : Int => Wp 1 402 25 [some (.inr (.inr (4, i0))), some (.inl x1_1), some (.inl x2)] [] M (rI Q)) ?_
    intro x1_1 e_x1_1
    replace h := h x1_1 e_x1_1
    refine Wp.path (k := 2) [] (C := [inR (x2 + 1)]) (pc' := 4) (ls' := [some (.inr (.inr (4, i0))), some (.inl x1_1), some (.inl (x2 + 1))]) (st' := []) (M' := M) rfl h.1 ?_
    replace h := h.2
    exact h
  · replace h := h.1 c_1
    refine Wp.path (k := 1) [1] (C := [12 ≤ x2]) (pc' := 31) (ls' := [some (.inr (.inr (4, i0))), some (.inl x1), some (.inl x2)]) (st' := []) (M' := M) rfl c_1 ?_
    refine Wp.path (k := 1) [] (C := []) (pc' := 32) (ls' := [some (.inr (.inr (4, i0))), some (.inl x1), some (.inl x2)]) (st' := [.inl x1]) (M' := M) rfl trivial ?_
    exact Wp.ret rfl ⟨_, rfl, h⟩
/-- X4_wipe -/
def E_403 (i0 : Nat) (M : Mm) (Q : Mm → Prop) : Prop := Ev 1 403 [.inr (.inr (4, i0))] M (rV Q)
theorem m_403 {i0 : Nat} {M : Mm} {Q Q1 : Mm → Prop} (h : E_403 i0 M Q) (k : (∀ M1, Q M1 → Q1 M1)) : E_403 i0 M Q1 := Ev.mono h (fun v M1 h => ⟨h.1, k _ h.2⟩)
theorem s_403_0 {i0 : Nat} {M : Mm} {Q : Mm → Prop} (h : (∀ M1 : Mm, M1 = setA M 500 i0 (upTo (fun _ => 0) (M.1 500 i0) 12) → (Q M1))) : E_403 i0 M Q := by
  show Wp 1 403 0 [some (.inr (.inr (4, i0)))] [] M (rV Q)
  refine Wp.path (k := 3) [] (C := []) (pc' := 5) (ls' := [some (.inr (.inr (4, i0)))]) (st' := [.inl 0, .inr (.inr (500, i0))]) (M' := M) rfl trivial ?_
  refine Wp.call (fill_500) rfl rfl (by decide) ?_
  rintro v_ M_ ⟨eM_, ev_⟩
  rw [eM_, ev_]
  clear eM_ ev_ v_ M_
  refine Bd (e := setA M 500 i0 (upTo (fun _ => 0) (M.1 500 i0) 12)) (P := fun M1 : Mm => Wp 1 403 8 [some (.inr (.inr (4, i0)))] [] M1 (rV Q)) ?_
  intro M1 e_M1
  replace h := h M1 e_M1
  exact Wp.ret rfl ⟨rfl, h⟩
/-- X4_copy -/
def E_404 (i0 : Nat) (i1 : Nat) (M : Mm) (Q : Mm → Prop) : Prop := Ev 1 404 [.inr (.inr (4, i0)), .inr (.inr (4, i1))] M (rV Q)
theorem m_404 {i0 : Nat} {i1 : Nat} {M : Mm} {Q Q1 : Mm → Prop} (h : E_404 i0 i1 M Q) (k : (∀ M1, Q M1 → Q1 M1)) : E_404 i0 i1 M Q1 := Ev.mono h (fun v M1 h => ⟨h.1, k _ h.2⟩)
def L_404_2 (i0 : Nat) (i1 : Nat) (x2 : Int) (M : Mm) (Q : Mm → Prop) : Prop := Wp 1 404 2 [some (.inr (.inr (4, i0))), some (.inr (.inr (4, i1))), some (.inl x2)] [] M (rV Q)
theorem s_404_0 {i0 : Nat} {i1 : Nat} {M : Mm} {Q : Mm → Prop} (h : (L_404_2 i0 i1 0 M Q)) : E_404 i0 i1 M Q := by
  show Wp 1 404 0 [some (.inr (.inr (4, i0))), some (.inr (.inr (4, i1))), none] [] M (rV Q)
  refine Wp.path (k := 2) [] (C := []) (pc' := 2) (ls' := [some (.inr (.inr (4, i0))), some (.inr (.inr (4, i1))), some (.inl 0)]) (st' := []) (M' := M) rfl trivial ?_
  exact h
theorem s_404_2 {i0 : Nat} {i1 : Nat} {x2 : Int} {M : Mm} {Q : Mm → Prop} (h : ((12 ≤ x2 → (Q M)) ∧ (x2 < 12 → (((0 ≤ x2 ∧ x2 < 12)) ∧ (∀ M1 : Mm, M1 = setI M 500 i0 x2.toNat (atN 12 (M.1 500 i1) x2) → (((-2147483648 ≤ x2 + 1 ∧ x2 + 1 ≤ 2147483647)) ∧ (L_404_2 i0 i1 (x2 + 1) M1 Q))))))) : L_404_2 i0 i1 x2 M Q := by
  show Wp 1 404 2 [some (.inr (.inr (4, i0))), some (.inr (.inr (4, i1))), some (.inl x2)] [] M (rV Q)
  refine Wp.path (k := 4) [] (C := []) (pc' := 8) (ls' := [some (.inr (.inr (4, i0))), some (.inr (.inr (4, i1))), some (.inl x2)]) (st' := [.inl 12, .inl x2]) (M' := M) rfl trivial ?_
  rcases Int.lt_or_le (x2) (12) with c_1 | c_1
  · replace h := h.2 c_1
    refine Wp.path (k := 1) [0] (C := [x2 < 12]) (pc' := 11) (ls' := [some (.inr (.inr (4, i0))), some (.inr (.inr (4, i1))), some (.inl x2)]) (st' := []) (M' := M) rfl c_1 ?_
    refine Wp.path (k := 6) [] (C := []) (pc' := 21) (ls' := [some (.inr (.inr (4, i0))), some (.inr (.inr (4, i1))), some (.inl x2)]) (st' := [.inl x2, .inr (.inr (500, i1)), .inl x2, .inr (.inr (500, i0))]) (M' := M) rfl trivial ?_
    refine Wp.call (at_500) rfl rfl (by decide) ?_
    rintro v_ M_ ⟨eM_, ev_⟩
    rw [eM_, ev_]
    clear eM_ ev_ v_ M_
    show Wp 1 404 24 [some (.inr (.inr (4, i0))), some (.inr (.inr (4, i1))), some (.inl x2)] [.inl (atN 12 (M.1 500 i1) x2), .inl x2, .inr (.inr (500, i0))] M (rV Q)
    refine Wp.path (k := 1) [] (C := [0 ≤ x2 ∧ x2 < 12]) (pc' := 25) (ls' := [some (.inr (.inr (4, i0))), some (.inr (.inr (4, i1))), some (.inl x2)]) (st' := []) (M' := setI M 500 i0 x2.toNat (atN 12 (M.1 500 i1) x2)) rfl h.1 ?_
    replace h := h.2
    refine Bd (P := fun M1 : Mm => Wp 1 404 25 [some (.inr (.inr (4, i0))), some (.inr (.inr (4, i1))), some (.inl x2)] [] M1 (rV Q)) ?_
    intro M1 e_M1
    replace h := h M1 e_M1
    refine Wp.path (k := 2) [] (C := [inR (x2 + 1)]) (pc' := 2) (ls' := [some (.inr (.inr (4, i0))), some (.inr (.inr (4, i1))), some (.inl (x2 + 1))]) (st' := []) (M' := M1) rfl h.1 ?_
    replace h := h.2
    exact h
  · replace h := h.1 c_1
    refine Wp.path (k := 1) [1] (C := [12 ≤ x2]) (pc' := 31) (ls' := [some (.inr (.inr (4, i0))), some (.inr (.inr (4, i1))), some (.inl x2)]) (st' := []) (M' := M) rfl c_1 ?_
    exact Wp.ret rfl ⟨rfl, h⟩
/-- X4_change -/
def E_405 (i0 : Nat) (x1 : Int) (x2 : Int) (x3 : Int) (x4 : Int) (x5 : Int) (M : Mm) (Q : Mm → Prop) : Prop := Ev 1 405 [.inr (.inr (4, i0)), .inl x1, .inl x2, .inl x3, .inl x4, .inl x5] M (rV Q)
theorem m_405 {i0 : Nat} {x1 : Int} {x2 : Int} {x3 : Int} {x4 : Int} {x5 : Int} {M : Mm} {Q Q1 : Mm → Prop} (h : E_405 i0 x1 x2 x3 x4 x5 M Q) (k : (∀ M1, Q M1 → Q1 M1)) : E_405 i0 x1 x2 x3 x4 x5 M Q1 := Ev.mono h (fun v M1 h => ⟨h.1, k _ h.2⟩)
def L_405_13 (i0 : Nat) (x1 : Int) (x2 : Int) (x3 : Int) (x4 : Int) (x5 : Int) (x6 : Int) (x7 : Int) (M : Mm) (Q : Mm → Prop) : Prop := Wp 1 405 13 [some (.inr (.inr (4, i0))), some (.inl x1), some (.inl x2), some (.inl x3), some (.inl x4), some (.inl x5), some (.inl x6), some (.inl x7)] [] M (rV Q)
theorem s_405_0 {i0 : Nat} {x1 : Int} {x2 : Int} {x3 : Int} {x4 : Int} {x5 : Int} {M : Mm} {Q : Mm → Prop} (h : ((-2147483648 ≤ (ish 1 x4) - 1 ∧ (ish 1 x4) - 1 ≤ 2147483647)) ∧ (∀ x6 : Int, x6 = ish ((ish 1 x4) - 1) x2 → (L_405_13 i0 x1 x2 x3 x4 x5 x6 0 M Q))) : E_405 i0 x1 x2 x3 x4 x5 M Q := by
  show Wp 1 405 0 [some (.inr (.inr (4, i0))), some (.inl x1), some (.inl x2), some (.inl x3), some (.inl x4), some (.inl x5), none, none] [] M (rV Q)
  refine Wp.path (k := 8) [] (C := [inR ((ish 1 x4) - 1)]) (pc' := 10) (ls' := [some (.inr (.inr (4, i0))), some (.inl x1), some (.inl x2), some (.inl x3), some (.inl x4), some (.inl x5), some (.inl (ish ((ish 1 x4) - 1) x2)), none]) (st' := []) (M' := M) rfl h.1 ?_
  replace h := h.2
  refine Bd (P := fun x6 : Int => Wp 1 405 10 [some (.inr (.inr (4, i0))), some (.inl x1), some (.inl x2), some (.inl x3), some (.inl x4), some (.inl x5), some (.inl x6), none] [] M (rV Q)) ?_
  intro x6 e_x6
  replace h := h x6 e_x6
  refine Wp.path (k := 2) [] (C := []) (pc' := 13) (ls' := [some (.inr (.inr (4, i0))), some (.inl x1), some (.inl x2), some (.inl x3), some (.inl x4), some (.inl x5), some (.inl x6), some (.inl 0)]) (st' := []) (M' := M) rfl trivial ?_
  exact h
theorem s_405_13 {i0 : Nat} {x1 : Int} {x2 : Int} {x3 : Int} {x4 : Int} {x5 : Int} {x6 : Int} {x7 : Int} {M : Mm} {Q : Mm → Prop} (h : ((12 ≤ x7 → (Q M)) ∧ (x7 < 12 → ((x7 < x3 → (((-2147483648 ≤ x7 + 1 ∧ x7 + 1 ≤ 2147483647)) ∧ (L_405_13 i0 x1 x2 x3 x4 x5 x6 (x7 + 1) M Q))) ∧ (x3 ≤ x7 → (((-2147483648 ≤ x3 + x5 ∧ x3 + x5 ≤ 2147483647)) ∧ ((x3 + x5 ≤ x7 → (((-2147483648 ≤ x7 + 1 ∧ x7 + 1 ≤ 2147483647)) ∧ (L_405_13 i0 x1 x2 x3 x4 x5 x6 (x7 + 1) M Q))) ∧ (x7 < x3 + x5 → (((0 ≤ x7 ∧ x7 < 12)) ∧ (((0 ≤ x7 ∧ x7 < 12)) ∧ (∀ M1 : Mm, M1 = setI M 500 i0 x7.toNat (cmbV x1 (M.1 500 i0 x7.toNat) x6) → (((-2147483648 ≤ x7 + 1 ∧ x7 + 1 ≤ 2147483647)) ∧ (L_405_13 i0 x1 x2 x3 x4 x5 x6 (x7 + 1) M1 Q))))))))))))) : L_405_13 i0 x1 x2 x3 x4 x5 x6 x7 M Q := by
  show Wp 1 405 13 [some (.inr (.inr (4, i0))), some (.inl x1), some (.inl x2), some (.inl x3), some (.inl x4), some (.inl x5), some (.inl x6), some (.inl x7)] [] M (rV Q)
  refine Wp.path (k := 4) [] (C := []) (pc' := 20) (ls' := [some (.inr (.inr (4, i0))), some (.inl x1), some (.inl x2), some (.inl x3), some (.inl x4), some (.inl x5), some (.inl x6), some (.inl x7)]) (st' := [.inl 12, .inl x7]) (M' := M) rfl trivial ?_
  rcases Int.lt_or_le (x7) (12) with c_1 | c_1
  · replace h := h.2 c_1
    refine Wp.path (k := 1) [0] (C := [x7 < 12]) (pc' := 23) (ls' := [some (.inr (.inr (4, i0))), some (.inl x1), some (.inl x2), some (.inl x3), some (.inl x4), some (.inl x5), some (.inl x6), some (.inl x7)]) (st' := []) (M' := M) rfl c_1 ?_
    refine Wp.path (k := 2) [] (C := []) (pc' := 26) (ls' := [some (.inr (.inr (4, i0))), some (.inl x1), some (.inl x2), some (.inl x3), some (.inl x4), some (.inl x5), some (.inl x6), some (.inl x7)]) (st' := [.inl x3, .inl x7]) (M' := M) rfl trivial ?_
    rcases Int.lt_or_le (x7) (x3) with c_2 | c_2
    · replace h := h.1 c_2
      refine Wp.path (k := 1) [1] (C := [x7 < x3]) (pc' := 58) (ls' := [some (.inr (.inr (4, i0))), some (.inl x1), some (.inl x2), some (.inl x3), some (.inl x4), some (.inl x5), some (.inl x6), some (.inl x7)]) (st' := []) (M' := M) rfl c_2 ?_
      refine Wp.path (k := 2) [] (C := [inR (x7 + 1)]) (pc' := 13) (ls' := [some (.inr (.inr (4, i0))), some (.inl x1), some (.inl x2), some (.inl x3), some (.inl x4), some (.inl x5), some (.inl x6), some (.inl (x7 + 1))]) (st' := []) (M' := M) rfl h.1 ?_
      replace h := h.2
      exact h
    · replace h := h.2 c_2
      refine Wp.path (k := 1) [0] (C := [x3 ≤ x7]) (pc' := 29) (ls' := [some (.inr (.inr (4, i0))), some (.inl x1), some (.inl x2), some (.inl x3), some (.inl x4), some (.inl x5), some (.inl x6), some (.inl x7)]) (st' := []) (M' := M) rfl c_2 ?_
      refine Wp.path (k := 4) [] (C := [inR (x3 + x5)]) (pc' := 35) (ls' := [some (.inr (.inr (4, i0))), some (.inl x1), some (.inl x2), some (.inl x3), some (.inl x4), some (.inl x5), some (.inl x6), some (.inl x7)]) (st' := [.inl (x3 + x5), .inl x7]) (M' := M) rfl h.1 ?_
      replace h := h.2
      rcases Int.lt_or_le (x7) (x3 + x5) with c_3 | c_3
      · replace h := h.2 c_3
        refine Wp.path (k := 1) [0] (C := [x7 < x3 + x5]) (pc' := 38) (ls' := [some (.inr (.inr (4, i0))), some (.inl x1), some (.inl x2), some (.inl x3), some (.inl x4), some (.inl x5), some (.inl x6), some (.inl x7)]) (st' := []) (M' := M) rfl c_3 ?_
        refine Wp.path (k := 9) [] (C := [0 ≤ x7 ∧ x7 < 12]) (pc' := 54) (ls' := [some (.inr (.inr (4, i0))), some (.inl x1), some (.inl x2), some (.inl x3), some (.inl x4), some (.inl x5), some (.inl x6), some (.inl x7)]) (st' := [.inl x6, .inl (M.1 500 i0 x7.toNat), .inl x1, .inl x7, .inr (.inr (500, i0))]) (M' := M) rfl h.1 ?_
        replace h := h.2
        refine Wp.call (e406) rfl rfl (by decide) ?_
        rintro v_ M_ ⟨eM_, ev_⟩
        rw [eM_, ev_]
        clear eM_ ev_ v_ M_
        show Wp 1 405 57 [some (.inr (.inr (4, i0))), some (.inl x1), some (.inl x2), some (.inl x3), some (.inl x4), some (.inl x5), some (.inl x6), some (.inl x7)] [.inl (cmbV x1 (M.1 500 i0 x7.toNat) x6), .inl x7, .inr (.inr (500, i0))] M (rV Q)
        refine Wp.path (k := 1) [] (C := [0 ≤ x7 ∧ x7 < 12]) (pc' := 58) (ls' := [some (.inr (.inr (4, i0))), some (.inl x1), some (.inl x2), some (.inl x3), some (.inl x4), some (.inl x5), some (.inl x6), some (.inl x7)]) (st' := []) (M' := setI M 500 i0 x7.toNat (cmbV x1 (M.1 500 i0 x7.toNat) x6)) rfl h.1 ?_
        replace h := h.2
        refine Bd (P := fun M1 : Mm => Wp 1 405 58 [some (.inr (.inr (4, i0))), some (.inl x1), some (.inl x2), some (.inl x3), some (.inl x4), some (.inl x5), some (.inl x6), some (.inl x7)] [] M1 (rV Q)) ?_
        intro M1 e_M1
        replace h := h M1 e_M1
        refine Wp.path (k := 2) [] (C := [inR (x7 + 1)]) (pc' := 13) (ls' := [some (.inr (.inr (4, i0))), some (.inl x1), some (.inl x2), some (.inl x3), some (.inl x4), some (.inl x5), some (.inl x6), some (.inl (x7 + 1))]) (st' := []) (M' := M1) rfl h.1 ?_
        replace h := h.2
        exact h
      · replace h := h.1 c_3
        refine Wp.path (k := 1) [1] (C := [x3 + x5 ≤ x7]) (pc' := 58) (ls' := [some (.inr (.inr (4, i0))), some (.inl x1), some (.inl x2), some (.inl x3), some (.inl x4), some (.inl x5), some (.inl x6), some (.inl x7)]) (st' := []) (M' := M) rfl c_3 ?_
        refine Wp.path (k := 2) [] (C := [inR (x7 + 1)]) (pc' := 13) (ls' := [some (.inr (.inr (4, i0))), some (.inl x1), some (.inl x2), some (.inl x3), some (.inl x4), some (.inl x5), some (.inl x6), some (.inl (x7 + 1))]) (st' := []) (M' := M) rfl h.1 ?_
        replace h := h.2
        exact h
  · replace h := h.1 c_1
    refine Wp.path (k := 1) [1] (C := [12 ≤ x7]) (pc' := 64) (ls' := [some (.inr (.inr (4, i0))), some (.inl x1), some (.inl x2), some (.inl x3), some (.inl x4), some (.inl x5), some (.inl x6), some (.inl x7)]) (st' := []) (M' := M) rfl c_1 ?_
    exact Wp.ret rfl ⟨rfl, h⟩
/-- X4_turn -/
def E_407 (i0 : Nat) (M : Mm) (Q : Mm → Prop) : Prop := Ev 1 407 [.inr (.inr (4, i0))] M (rV Q)
theorem m_407 {i0 : Nat} {M : Mm} {Q Q1 : Mm → Prop} (h : E_407 i0 M Q) (k : (∀ M1, Q M1 → Q1 M1)) : E_407 i0 M Q1 := Ev.mono h (fun v M1 h => ⟨h.1, k _ h.2⟩)
def L_407_10 (i0 : Nat) (x1 : Int) (M : Mm) (Q : Mm → Prop) : Prop := ∀ o2 : Option Vv, Wp 1 407 10 [some (.inr (.inr (4, i0))), some (.inl x1), o2] [] M (rV Q)
def L_407_18 (i0 : Nat) (x1 : Int) (x2 : Int) (M : Mm) (Q : Mm → Prop) : Prop := Wp 1 407 18 [some (.inr (.inr (4, i0))), some (.inl x1), some (.inl x2)] [] M (rV Q)
def L_407_65 (i0 : Nat) (x1 : Int) (M : Mm) (Q : Mm → Prop) : Prop := ∀ o2 : Option Vv, Wp 1 407 65 [some (.inr (.inr (4, i0))), some (.inl x1), o2] [] M (rV Q)
theorem s_407_0 {i0 : Nat} {M : Mm} {Q : Mm → Prop} (h : (∀ M1 : Mm, M1 = setA M 501 i0 (upTo (fun _ => 0) (M.1 501 i0) 12) → (L_407_10 i0 0 M1 Q))) : E_407 i0 M Q := by
  show Wp 1 407 0 [some (.inr (.inr (4, i0))), none, none] [] M (rV Q)
  refine Wp.path (k := 3) [] (C := []) (pc' := 5) (ls' := [some (.inr (.inr (4, i0))), none, none]) (st' := [.inl 0, .inr (.inr (501, i0))]) (M' := M) rfl trivial ?_
  refine Wp.call (fill_501) rfl rfl (by decide) ?_
  rintro v_ M_ ⟨eM_, ev_⟩
  rw [eM_, ev_]
  clear eM_ ev_ v_ M_
  refine Bd (e := setA M 501 i0 (upTo (fun _ => 0) (M.1 501 i0) 12)) (P := fun M1 : Mm => Wp 1 407 8 [some (.inr (.inr (4, i0))), none, none] [] M1 (rV Q)) ?_
  intro M1 e_M1
  replace h := h M1 e_M1
  refine Wp.path (k := 2) [] (C := []) (pc' := 10) (ls' := [some (.inr (.inr (4, i0))), some (.inl 0), none]) (st' := []) (M' := M1) rfl trivial ?_
  exact h _
theorem s_407_10 {i0 : Nat} {x1 : Int} {M : Mm} {Q : Mm → Prop} (h : ((12 ≤ x1 → (L_407_65 i0 0 M Q)) ∧ (x1 < 12 → (L_407_18 i0 x1 0 M Q)))) : L_407_10 i0 x1 M Q := by
  intro o2
  show Wp 1 407 10 [some (.inr (.inr (4, i0))), some (.inl x1), o2] [] M (rV Q)
  refine Wp.path (k := 2) [] (C := []) (pc' := 13) (ls' := [some (.inr (.inr (4, i0))), some (.inl x1), o2]) (st' := [.inl 12, .inl x1]) (M' := M) rfl trivial ?_
  rcases Int.lt_or_le (x1) (12) with c_1 | c_1
  · replace h := h.2 c_1
    refine Wp.path (k := 1) [0] (C := [x1 < 12]) (pc' := 16) (ls' := [some (.inr (.inr (4, i0))), some (.inl x1), o2]) (st' := []) (M' := M) rfl c_1 ?_
    refine Wp.path (k := 2) [] (C := []) (pc' := 18) (ls' := [some (.inr (.inr (4, i0))), some (.inl x1), some (.inl 0)]) (st' := []) (M' := M) rfl trivial ?_
    exact h
  · replace h := h.1 c_1
    refine Wp.path (k := 1) [1] (C := [12 ≤ x1]) (pc' := 63) (ls' := [some (.inr (.inr (4, i0))), some (.inl x1), o2]) (st' := []) (M' := M) rfl c_1 ?_
    refine Wp.path (k := 2) [] (C := []) (pc' := 65) (ls' := [some (.inr (.inr (4, i0))), some (.inl 0), o2]) (st' := []) (M' := M) rfl trivial ?_
    exact h _
theorem s_407_18 {i0 : Nat} {x1 : Int} {x2 : Int} {M : Mm} {Q : Mm → Prop} (h : ((12 ≤ x2 → (((-2147483648 ≤ x1 + 1 ∧ x1 + 1 ≤ 2147483647)) ∧ (L_407_10 i0 (x1 + 1) M Q))) ∧ (x2 < 12 → ((hasV (M.1 500 i0) x2 x1 = 0 → (((-2147483648 ≤ x2 + 1 ∧ x2 + 1 ≤ 2147483647)) ∧ (L_407_18 i0 x1 (x2 + 1) M Q))) ∧ (hasV (M.1 500 i0) x2 x1 ≠ 0 → (((0 ≤ x2 ∧ x2 < 12) ∧ (-2147483648 ≤ 11 - x1 ∧ 11 - x1 ≤ 2147483647)) ∧ (∀ M1 : Mm, M1 = setI M 501 i0 x2.toNat (ior' (M.1 501 i0 x2.toNat) (ish 1 (11 - x1))) → (((-2147483648 ≤ x2 + 1 ∧ x2 + 1 ≤ 2147483647)) ∧ (L_407_18 i0 x1 (x2 + 1) M1 Q))))))))) : L_407_18 i0 x1 x2 M Q := by
  show Wp 1 407 18 [some (.inr (.inr (4, i0))), some (.inl x1), some (.inl x2)] [] M (rV Q)
  refine Wp.path (k := 4) [] (C := []) (pc' := 24) (ls' := [some (.inr (.inr (4, i0))), some (.inl x1), some (.inl x2)]) (st' := [.inl 12, .inl x2]) (M' := M) rfl trivial ?_
  rcases Int.lt_or_le (x2) (12) with c_1 | c_1
  · replace h := h.2 c_1
    refine Wp.path (k := 1) [0] (C := [x2 < 12]) (pc' := 27) (ls' := [some (.inr (.inr (4, i0))), some (.inl x1), some (.inl x2)]) (st' := []) (M' := M) rfl c_1 ?_
    refine Wp.path (k := 3) [] (C := []) (pc' := 30) (ls' := [some (.inr (.inr (4, i0))), some (.inl x1), some (.inl x2)]) (st' := [.inl x1, .inl x2, .inr (.inr (4, i0))]) (M' := M) rfl trivial ?_
    refine Wp.call (e401) rfl rfl (by decide) ?_
    rintro v_ M_ ⟨eM_, ev_⟩
    rw [eM_, ev_]
    clear eM_ ev_ v_ M_
    show Wp 1 407 33 [some (.inr (.inr (4, i0))), some (.inl x1), some (.inl x2)] [.inl (hasV (M.1 500 i0) x2 x1)] M (rV Q)
    rcases Decidable.em (hasV (M.1 500 i0) x2 x1 = 0) with c_2 | c_2
    · replace h := h.1 c_2
      refine Wp.path (k := 1) [1] (C := [hasV (M.1 500 i0) x2 x1 = 0]) (pc' := 51) (ls' := [some (.inr (.inr (4, i0))), some (.inl x1), some (.inl x2)]) (st' := []) (M' := M) rfl c_2 ?_
      refine Wp.path (k := 2) [] (C := [inR (x2 + 1)]) (pc' := 18) (ls' := [some (.inr (.inr (4, i0))), some (.inl x1), some (.inl (x2 + 1))]) (st' := []) (M' := M) rfl h.1 ?_
      replace h := h.2
      exact h
    · replace h := h.2 c_2
      refine Wp.path (k := 1) [0] (C := [hasV (M.1 500 i0) x2 x1 ≠ 0]) (pc' := 36) (ls' := [some (.inr (.inr (4, i0))), some (.inl x1), some (.inl x2)]) (st' := []) (M' := M) rfl c_2 ?_
      refine Wp.path (k := 12) [] (C := [0 ≤ x2 ∧ x2 < 12, inR (11 - x1), 0 ≤ x2 ∧ x2 < 12]) (pc' := 51) (ls' := [some (.inr (.inr (4, i0))), some (.inl x1), some (.inl x2)]) (st' := []) (M' := setI M 501 i0 x2.toNat (ior' (M.1 501 i0 x2.toNat) (ish 1 (11 - x1)))) rfl ⟨h.1.1, h.1.2, h.1.1⟩ ?_
      replace h := h.2
      refine Bd (P := fun M1 : Mm => Wp 1 407 51 [some (.inr (.inr (4, i0))), some (.inl x1), some (.inl x2)] [] M1 (rV Q)) ?_
      intro M1 e_M1
      replace h := h M1 e_M1
      refine Wp.path (k := 2) [] (C := [inR (x2 + 1)]) (pc' := 18) (ls' := [some (.inr (.inr (4, i0))), some (.inl x1), some (.inl (x2 + 1))]) (st' := []) (M' := M1) rfl h.1 ?_
      replace h := h.2
      exact h
  · replace h := h.1 c_1
    refine Wp.path (k := 1) [1] (C := [12 ≤ x2]) (pc' := 57) (ls' := [some (.inr (.inr (4, i0))), some (.inl x1), some (.inl x2)]) (st' := []) (M' := M) rfl c_1 ?_
    refine Wp.path (k := 2) [] (C := [inR (x1 + 1)]) (pc' := 10) (ls' := [some (.inr (.inr (4, i0))), some (.inl (x1 + 1)), some (.inl x2)]) (st' := []) (M' := M) rfl h.1 ?_
    replace h := h.2
    exact h _
theorem s_407_65 {i0 : Nat} {x1 : Int} {M : Mm} {Q : Mm → Prop} (h : ((12 ≤ x1 → (Q M)) ∧ (x1 < 12 → (((0 ≤ x1 ∧ x1 < 12)) ∧ (∀ M1 : Mm, M1 = setI M 500 i0 x1.toNat (atN 12 (M.1 501 i0) x1) → (((-2147483648 ≤ x1 + 1 ∧ x1 + 1 ≤ 2147483647)) ∧ (L_407_65 i0 (x1 + 1) M1 Q))))))) : L_407_65 i0 x1 M Q := by
  intro o2
  show Wp 1 407 65 [some (.inr (.inr (4, i0))), some (.inl x1), o2] [] M (rV Q)
  refine Wp.path (k := 4) [] (C := []) (pc' := 71) (ls' := [some (.inr (.inr (4, i0))), some (.inl x1), o2]) (st' := [.inl 12, .inl x1]) (M' := M) rfl trivial ?_
  rcases Int.lt_or_le (x1) (12) with c_1 | c_1
  · replace h := h.2 c_1
    refine Wp.path (k := 1) [0] (C := [x1 < 12]) (pc' := 74) (ls' := [some (.inr (.inr (4, i0))), some (.inl x1), o2]) (st' := []) (M' := M) rfl c_1 ?_
    refine Wp.path (k := 6) [] (C := []) (pc' := 84) (ls' := [some (.inr (.inr (4, i0))), some (.inl x1), o2]) (st' := [.inl x1, .inr (.inr (501, i0)), .inl x1, .inr (.inr (500, i0))]) (M' := M) rfl trivial ?_
    refine Wp.call (at_501) rfl rfl (by decide) ?_
    rintro v_ M_ ⟨eM_, ev_⟩
    rw [eM_, ev_]
    clear eM_ ev_ v_ M_
    show Wp 1 407 87 [some (.inr (.inr (4, i0))), some (.inl x1), o2] [.inl (atN 12 (M.1 501 i0) x1), .inl x1, .inr (.inr (500, i0))] M (rV Q)
    refine Wp.path (k := 1) [] (C := [0 ≤ x1 ∧ x1 < 12]) (pc' := 88) (ls' := [some (.inr (.inr (4, i0))), some (.inl x1), o2]) (st' := []) (M' := setI M 500 i0 x1.toNat (atN 12 (M.1 501 i0) x1)) rfl h.1 ?_
    replace h := h.2
    refine Bd (P := fun M1 : Mm => Wp 1 407 88 [some (.inr (.inr (4, i0))), some (.inl x1), o2] [] M1 (rV Q)) ?_
    intro M1 e_M1
    replace h := h M1 e_M1
    refine Wp.path (k := 2) [] (C := [inR (x1 + 1)]) (pc' := 65) (ls' := [some (.inr (.inr (4, i0))), some (.inl (x1 + 1)), o2]) (st' := []) (M' := M1) rfl h.1 ?_
    replace h := h.2
    exact h _
  · replace h := h.1 c_1
    refine Wp.path (k := 1) [1] (C := [12 ≤ x1]) (pc' := 94) (ls' := [some (.inr (.inr (4, i0))), some (.inl x1), o2]) (st' := []) (M' := M) rfl c_1 ?_
    exact Wp.ret rfl ⟨rfl, h⟩
/-- X4_mirror -/
def E_408 (i0 : Nat) (M : Mm) (Q : Mm → Prop) : Prop := Ev 0 408 [.inr (.inr (4, i0))] M (rV Q)
theorem m_408 {i0 : Nat} {M : Mm} {Q Q1 : Mm → Prop} (h : E_408 i0 M Q) (k : (∀ M1, Q M1 → Q1 M1)) : E_408 i0 M Q1 := Ev.mono h (fun v M1 h => ⟨h.1, k _ h.2⟩)
def L_408_2 (i0 : Nat) (x1 : Int) (M : Mm) (Q : Mm → Prop) : Prop := ∀ o2 o3 : Option Vv, Wp 0 408 2 [some (.inr (.inr (4, i0))), some (.inl x1), o2, o3] [] M (rV Q)
def L_408_15 (i0 : Nat) (x1 : Int) (x2 : Int) (x3 : Int) (M : Mm) (Q : Mm → Prop) : Prop := Wp 0 408 15 [some (.inr (.inr (4, i0))), some (.inl x1), some (.inl x2), some (.inl x3)] [] M (rV Q)
theorem s_408_0 {i0 : Nat} {M : Mm} {Q : Mm → Prop} (h : (L_408_2 i0 0 M Q)) : E_408 i0 M Q := by
  show Wp 0 408 0 [some (.inr (.inr (4, i0))), none, none, none] [] M (rV Q)
  refine Wp.path (k := 2) [] (C := []) (pc' := 2) (ls' := [some (.inr (.inr (4, i0))), some (.inl 0), none, none]) (st' := []) (M' := M) rfl trivial ?_
  exact h _ _
theorem s_408_2 {i0 : Nat} {x1 : Int} {M : Mm} {Q : Mm → Prop} (h : ((12 ≤ x1 → (Q M)) ∧ (x1 < 12 → (L_408_15 i0 x1 0 0 M Q)))) : L_408_2 i0 x1 M Q := by
  intro o2 o3
  show Wp 0 408 2 [some (.inr (.inr (4, i0))), some (.inl x1), o2, o3] [] M (rV Q)
  refine Wp.path (k := 4) [] (C := []) (pc' := 8) (ls' := [some (.inr (.inr (4, i0))), some (.inl x1), o2, o3]) (st' := [.inl 12, .inl x1]) (M' := M) rfl trivial ?_
  rcases Int.lt_or_le (x1) (12) with c_1 | c_1
  · replace h := h.2 c_1
    refine Wp.path (k := 1) [0] (C := [x1 < 12]) (pc' := 11) (ls' := [some (.inr (.inr (4, i0))), some (.inl x1), o2, o3]) (st' := []) (M' := M) rfl c_1 ?_
    refine Wp.path (k := 4) [] (C := []) (pc' := 15) (ls' := [some (.inr (.inr (4, i0))), some (.inl x1), some (.inl 0), some (.inl 0)]) (st' := []) (M' := M) rfl trivial ?_
    exact h
  · replace h := h.1 c_1
    refine Wp.path (k := 1) [1] (C := [12 ≤ x1]) (pc' := 58) (ls' := [some (.inr (.inr (4, i0))), some (.inl x1), o2, o3]) (st' := []) (M' := M) rfl c_1 ?_
    exact Wp.ret rfl ⟨rfl, h⟩
theorem s_408_15 {i0 : Nat} {x1 : Int} {x2 : Int} {x3 : Int} {M : Mm} {Q : Mm → Prop} (h : ((12 ≤ x3 → (((0 ≤ x1 ∧ x1 < 12)) ∧ (∀ M1 : Mm, M1 = setI M 500 i0 x1.toNat x2 → (((-2147483648 ≤ x1 + 1 ∧ x1 + 1 ≤ 2147483647)) ∧ (L_408_2 i0 (x1 + 1) M1 Q))))) ∧ (x3 < 12 → (((0 ≤ x1 ∧ x1 < 12) ∧ (-2147483648 ≤ 11 - x3 ∧ 11 - x3 ≤ 2147483647)) ∧ (∀ x2_1 : Int, x2_1 = ior' x2 (ish (ian (isr (M.1 500 i0 x1.toNat) x3) 1) (11 - x3)) → (((-2147483648 ≤ x3 + 1 ∧ x3 + 1 ≤ 2147483647)) ∧ (L_408_15 i0 x1 x2_1 (x3 + 1) M Q))))))) : L_408_15 i0 x1 x2 x3 M Q := by
  show Wp 0 408 15 [some (.inr (.inr (4, i0))), some (.inl x1), some (.inl x2), some (.inl x3)] [] M (rV Q)
  refine Wp.path (k := 2) [] (C := []) (pc' := 18) (ls' := [some (.inr (.inr (4, i0))), some (.inl x1), some (.inl x2), some (.inl x3)]) (st' := [.inl 12, .inl x3]) (M' := M) rfl trivial ?_
  rcases Int.lt_or_le (x3) (12) with c_1 | c_1
  · replace h := h.2 c_1
    refine Wp.path (k := 1) [0] (C := [x3 < 12]) (pc' := 21) (ls' := [some (.inr (.inr (4, i0))), some (.inl x1), some (.inl x2), some (.inl x3)]) (st' := []) (M' := M) rfl c_1 ?_
    refine Wp.path (k := 15) [] (C := [0 ≤ x1 ∧ x1 < 12, inR (11 - x3)]) (pc' := 39) (ls' := [some (.inr (.inr (4, i0))), some (.inl x1), some (.inl (ior' x2 (ish (ian (isr (M.1 500 i0 x1.toNat) x3) 1) (11 - x3)))), some (.inl x3)]) (st' := []) (M' := M) rfl ⟨h.1.1, h.1.2⟩ ?_
    replace h := h.2
    refine Bd (P := fun x2_1 : Int => Wp 0 408 39 [some (.inr (.inr (4, i0))), some (.inl x1), some (.inl x2_1), some (.inl x3)] [] M (rV Q)) ?_
    intro x2_1 e_x2_1
    replace h := h x2_1 e_x2_1
    refine Wp.path (k := 2) [] (C := [inR (x3 + 1)]) (pc' := 15) (ls' := [some (.inr (.inr (4, i0))), some (.inl x1), some (.inl x2_1), some (.inl (x3 + 1))]) (st' := []) (M' := M) rfl h.1 ?_
    replace h := h.2
    exact h
  · replace h := h.1 c_1
    refine Wp.path (k := 1) [1] (C := [12 ≤ x3]) (pc' := 45) (ls' := [some (.inr (.inr (4, i0))), some (.inl x1), some (.inl x2), some (.inl x3)]) (st' := []) (M' := M) rfl c_1 ?_
    refine Wp.path (k := 5) [] (C := [0 ≤ x1 ∧ x1 < 12]) (pc' := 52) (ls' := [some (.inr (.inr (4, i0))), some (.inl x1), some (.inl x2), some (.inl x3)]) (st' := []) (M' := setI M 500 i0 x1.toNat x2) rfl h.1 ?_
    replace h := h.2
    refine Bd (P := fun M1 : Mm => Wp 0 408 52 [some (.inr (.inr (4, i0))), some (.inl x1), some (.inl x2), some (.inl x3)] [] M1 (rV Q)) ?_
    intro M1 e_M1
    replace h := h M1 e_M1
    refine Wp.path (k := 2) [] (C := [inR (x1 + 1)]) (pc' := 2) (ls' := [some (.inr (.inr (4, i0))), some (.inl (x1 + 1)), some (.inl x2), some (.inl x3)]) (st' := []) (M' := M1) rfl h.1 ?_
    replace h := h.2
    exact h _ _
/-- X4_leastX -/
def E_411 (i0 : Nat) (M : Mm) (Q : Int → Mm → Prop) : Prop := Ev 0 411 [.inr (.inr (4, i0))] M (rI Q)
theorem m_411 {i0 : Nat} {M : Mm} {Q Q1 : Int → Mm → Prop} (h : E_411 i0 M Q) (k : (∀ r M1, Q r M1 → Q1 r M1)) : E_411 i0 M Q1 := Ev.mono h (fun v M1 ⟨r, h1, h2⟩ => ⟨r, h1, k _ _ h2⟩)
def L_411_4 (i0 : Nat) (x1 : Int) (x2 : Int) (M : Mm) (Q : Int → Mm → Prop) : Prop := Wp 0 411 4 [some (.inr (.inr (4, i0))), some (.inl x1), some (.inl x2)] [] M (rI Q)
def L_411_30 (i0 : Nat) (x1 : Int) (x2 : Int) (M : Mm) (Q : Int → Mm → Prop) : Prop := Wp 0 411 30 [some (.inr (.inr (4, i0))), some (.inl x1), some (.inl x2)] [] M (rI Q)
theorem s_411_0 {i0 : Nat} {M : Mm} {Q : Int → Mm → Prop} (h : (L_411_4 i0 0 0 M Q)) : E_411 i0 M Q := by
  show Wp 0 411 0 [some (.inr (.inr (4, i0))), none, none] [] M (rI Q)
  refine Wp.path (k := 4) [] (C := []) (pc' := 4) (ls' := [some (.inr (.inr (4, i0))), some (.inl 0), some (.inl 0)]) (st' := []) (M' := M) rfl trivial ?_
  exact h
theorem s_411_4 {i0 : Nat} {x1 : Int} {x2 : Int} {M : Mm} {Q : Int → Mm → Prop} (h : ((12 ≤ x2 → (L_411_30 i0 x1 0 M Q)) ∧ (x2 < 12 → (((0 ≤ x2 ∧ x2 < 12)) ∧ (∀ x1_1 : Int, x1_1 = ior' x1 (M.1 500 i0 x2.toNat) → (((-2147483648 ≤ x2 + 1 ∧ x2 + 1 ≤ 2147483647)) ∧ (L_411_4 i0 x1_1 (x2 + 1) M Q))))))) : L_411_4 i0 x1 x2 M Q := by
  show Wp 0 411 4 [some (.inr (.inr (4, i0))), some (.inl x1), some (.inl x2)] [] M (rI Q)
  refine Wp.path (k := 4) [] (C := []) (pc' := 10) (ls' := [some (.inr (.inr (4, i0))), some (.inl x1), some (.inl x2)]) (st' := [.inl 12, .inl x2]) (M' := M) rfl trivial ?_
  rcases Int.lt_or_le (x2) (12) with c_1 | c_1
  · replace h := h.2 c_1
    refine Wp.path (k := 1) [0] (C := [x2 < 12]) (pc' := 13) (ls' := [some (.inr (.inr (4, i0))), some (.inl x1), some (.inl x2)]) (st' := []) (M' := M) rfl c_1 ?_
    refine Wp.path (k := 7) [] (C := [0 ≤ x2 ∧ x2 < 12]) (pc' := 22) (ls' := [some (.inr (.inr (4, i0))), some (.inl (ior' x1 (M.1 500 i0 x2.toNat))), some (.inl x2)]) (st' := []) (M' := M) rfl h.1 ?_
    replace h := h.2
    refine Bd (P := fun x1_1 : Int => Wp 0 411 22 [some (.inr (.inr (4, i0))), some (.inl x1_1), some (.inl x2)] [] M (rI Q)) ?_
    intro x1_1 e_x1_1
    replace h := h x1_1 e_x1_1
    refine Wp.path (k := 2) [] (C := [inR (x2 + 1)]) (pc' := 4) (ls' := [some (.inr (.inr (4, i0))), some (.inl x1_1), some (.inl (x2 + 1))]) (st' := []) (M' := M) rfl h.1 ?_
    replace h := h.2
    exact h
  · replace h := h.1 c_1
    refine Wp.path (k := 1) [1] (C := [12 ≤ x2]) (pc' := 28) (ls' := [some (.inr (.inr (4, i0))), some (.inl x1), some (.inl x2)]) (st' := []) (M' := M) rfl c_1 ?_
    refine Wp.path (k := 2) [] (C := []) (pc' := 30) (ls' := [some (.inr (.inr (4, i0))), some (.inl x1), some (.inl 0)]) (st' := []) (M' := M) rfl trivial ?_
    exact h
theorem s_411_30 {i0 : Nat} {x1 : Int} {x2 : Int} {M : Mm} {Q : Int → Mm → Prop} (h : ((12 ≤ x2 → (Q 0 M)) ∧ (x2 < 12 → ((ian (isr x1 x2) 1 = 0 → (((-2147483648 ≤ x2 + 1 ∧ x2 + 1 ≤ 2147483647)) ∧ (L_411_30 i0 x1 (x2 + 1) M Q))) ∧ (ian (isr x1 x2) 1 ≠ 0 → (Q x2 M)))))) : L_411_30 i0 x1 x2 M Q := by
  show Wp 0 411 30 [some (.inr (.inr (4, i0))), some (.inl x1), some (.inl x2)] [] M (rI Q)
  refine Wp.path (k := 2) [] (C := []) (pc' := 33) (ls' := [some (.inr (.inr (4, i0))), some (.inl x1), some (.inl x2)]) (st' := [.inl 12, .inl x2]) (M' := M) rfl trivial ?_
  rcases Int.lt_or_le (x2) (12) with c_1 | c_1
  · replace h := h.2 c_1
    refine Wp.path (k := 1) [0] (C := [x2 < 12]) (pc' := 36) (ls' := [some (.inr (.inr (4, i0))), some (.inl x1), some (.inl x2)]) (st' := []) (M' := M) rfl c_1 ?_
    refine Wp.path (k := 5) [] (C := []) (pc' := 41) (ls' := [some (.inr (.inr (4, i0))), some (.inl x1), some (.inl x2)]) (st' := [.inl (ian (isr x1 x2) 1)]) (M' := M) rfl trivial ?_
    rcases Decidable.em (ian (isr x1 x2) 1 = 0) with c_2 | c_2
    · replace h := h.1 c_2
      refine Wp.path (k := 1) [1] (C := [ian (isr x1 x2) 1 = 0]) (pc' := 46) (ls' := [some (.inr (.inr (4, i0))), some (.inl x1), some (.inl x2)]) (st' := []) (M' := M) rfl c_2 ?_
      refine Wp.path (k := 2) [] (C := [inR (x2 + 1)]) (pc' := 30) (ls' := [some (.inr (.inr (4, i0))), some (.inl x1), some (.inl (x2 + 1))]) (st' := []) (M' := M) rfl h.1 ?_
      replace h := h.2
      exact h
    · replace h := h.2 c_2
      refine Wp.path (k := 1) [0] (C := [ian (isr x1 x2) 1 ≠ 0]) (pc' := 44) (ls' := [some (.inr (.inr (4, i0))), some (.inl x1), some (.inl x2)]) (st' := []) (M' := M) rfl c_2 ?_
      refine Wp.path (k := 1) [] (C := []) (pc' := 45) (ls' := [some (.inr (.inr (4, i0))), some (.inl x1), some (.inl x2)]) (st' := [.inl x2]) (M' := M) rfl trivial ?_
      exact Wp.ret rfl ⟨_, rfl, h⟩
  · replace h := h.1 c_1
    refine Wp.path (k := 1) [1] (C := [12 ≤ x2]) (pc' := 52) (ls' := [some (.inr (.inr (4, i0))), some (.inl x1), some (.inl x2)]) (st' := []) (M' := M) rfl c_1 ?_
    refine Wp.path (k := 1) [] (C := []) (pc' := 53) (ls' := [some (.inr (.inr (4, i0))), some (.inl x1), some (.inl x2)]) (st' := [.inl 0]) (M' := M) rfl trivial ?_
    exact Wp.ret rfl ⟨_, rfl, h⟩
/-- X4_leastY -/
def E_412 (i0 : Nat) (M : Mm) (Q : Int → Mm → Prop) : Prop := Ev 0 412 [.inr (.inr (4, i0))] M (rI Q)
theorem m_412 {i0 : Nat} {M : Mm} {Q Q1 : Int → Mm → Prop} (h : E_412 i0 M Q) (k : (∀ r M1, Q r M1 → Q1 r M1)) : E_412 i0 M Q1 := Ev.mono h (fun v M1 ⟨r, h1, h2⟩ => ⟨r, h1, k _ _ h2⟩)
def L_412_2 (i0 : Nat) (x1 : Int) (M : Mm) (Q : Int → Mm → Prop) : Prop := Wp 0 412 2 [some (.inr (.inr (4, i0))), some (.inl x1)] [] M (rI Q)
theorem s_412_0 {i0 : Nat} {M : Mm} {Q : Int → Mm → Prop} (h : (L_412_2 i0 0 M Q)) : E_412 i0 M Q := by
  show Wp 0 412 0 [some (.inr (.inr (4, i0))), none] [] M (rI Q)
  refine Wp.path (k := 2) [] (C := []) (pc' := 2) (ls' := [some (.inr (.inr (4, i0))), some (.inl 0)]) (st' := []) (M' := M) rfl trivial ?_
  exact h
theorem s_412_2 {i0 : Nat} {x1 : Int} {M : Mm} {Q : Int → Mm → Prop} (h : ((12 ≤ x1 → (Q 0 M)) ∧ (x1 < 12 → (((0 ≤ x1 ∧ x1 < 12)) ∧ ((M.1 500 i0 x1.toNat = 0 → (((-2147483648 ≤ x1 + 1 ∧ x1 + 1 ≤ 2147483647)) ∧ (L_412_2 i0 (x1 + 1) M Q))) ∧ (M.1 500 i0 x1.toNat ≠ 0 → (Q x1 M))))))) : L_412_2 i0 x1 M Q := by
  show Wp 0 412 2 [some (.inr (.inr (4, i0))), some (.inl x1)] [] M (rI Q)
  refine Wp.path (k := 4) [] (C := []) (pc' := 8) (ls' := [some (.inr (.inr (4, i0))), some (.inl x1)]) (st' := [.inl 12, .inl x1]) (M' := M) rfl trivial ?_
  rcases Int.lt_or_le (x1) (12) with c_1 | c_1
  · replace h := h.2 c_1
    refine Wp.path (k := 1) [0] (C := [x1 < 12]) (pc' := 11) (ls' := [some (.inr (.inr (4, i0))), some (.inl x1)]) (st' := []) (M' := M) rfl c_1 ?_
    refine Wp.path (k := 4) [] (C := [0 ≤ x1 ∧ x1 < 12]) (pc' := 17) (ls' := [some (.inr (.inr (4, i0))), some (.inl x1)]) (st' := [.inl (M.1 500 i0 x1.toNat)]) (M' := M) rfl h.1 ?_
    replace h := h.2
    rcases Decidable.em (M.1 500 i0 x1.toNat = 0) with c_2 | c_2
    · replace h := h.1 c_2
      refine Wp.path (k := 1) [1] (C := [M.1 500 i0 x1.toNat = 0]) (pc' := 22) (ls' := [some (.inr (.inr (4, i0))), some (.inl x1)]) (st' := []) (M' := M) rfl c_2 ?_
      refine Wp.path (k := 2) [] (C := [inR (x1 + 1)]) (pc' := 2) (ls' := [some (.inr (.inr (4, i0))), some (.inl (x1 + 1))]) (st' := []) (M' := M) rfl h.1 ?_
      replace h := h.2
      exact h
    · replace h := h.2 c_2
      refine Wp.path (k := 1) [0] (C := [M.1 500 i0 x1.toNat ≠ 0]) (pc' := 20) (ls' := [some (.inr (.inr (4, i0))), some (.inl x1)]) (st' := []) (M' := M) rfl c_2 ?_
      refine Wp.path (k := 1) [] (C := []) (pc' := 21) (ls' := [some (.inr (.inr (4, i0))), some (.inl x1)]) (st' := [.inl x1]) (M' := M) rfl trivial ?_
      exact Wp.ret rfl ⟨_, rfl, h⟩
  · replace h := h.1 c_1
    refine Wp.path (k := 1) [1] (C := [12 ≤ x1]) (pc' := 28) (ls' := [some (.inr (.inr (4, i0))), some (.inl x1)]) (st' := []) (M' := M) rfl c_1 ?_
    refine Wp.path (k := 1) [] (C := []) (pc' := 29) (ls' := [some (.inr (.inr (4, i0))), some (.inl x1)]) (st' := [.inl 0]) (M' := M) rfl trivial ?_
    exact Wp.ret rfl ⟨_, rfl, h⟩
/-- X4_hasShapeOf -/
def E_410 (i0 : Nat) (i1 : Nat) (M : Mm) (Q : Int → Mm → Prop) : Prop := Ev 1 410 [.inr (.inr (4, i0)), .inr (.inr (4, i1))] M (rI Q)
theorem m_410 {i0 : Nat} {i1 : Nat} {M : Mm} {Q Q1 : Int → Mm → Prop} (h : E_410 i0 i1 M Q) (k : (∀ r M1, Q r M1 → Q1 r M1)) : E_410 i0 i1 M Q1 := Ev.mono h (fun v M1 ⟨r, h1, h2⟩ => ⟨r, h1, k _ _ h2⟩)
def L_410_25 (i0 : Nat) (i1 : Nat) (x2 : Int) (x3 : Int) (x4 : Int) (x5 : Int) (x6 : Int) (M : Mm) (Q : Int → Mm → Prop) : Prop := Wp 1 410 25 [some (.inr (.inr (4, i0))), some (.inr (.inr (4, i1))), some (.inl x2), some (.inl x3), some (.inl x4), some (.inl x5), some (.inl x6)] [] M (rI Q)
theorem s_410_0 {i0 : Nat} {i1 : Nat} {M : Mm} {Q : Int → Mm → Prop} (h : (E_411 i0 M (fun (r : Int) (M1 : Mm) => (E_412 i0 M1 (fun (r_1 : Int) (M1_1 : Mm) => (E_411 i1 M1_1 (fun (r_2 : Int) (M1_2 : Mm) => (E_412 i1 M1_2 (fun (r_3 : Int) (M1_3 : Mm) => (L_410_25 i0 i1 r r_1 r_2 r_3 0 M1_3 Q)))))))))) : E_410 i0 i1 M Q := by
  show Wp 1 410 0 [some (.inr (.inr (4, i0))), some (.inr (.inr (4, i1))), none, none, none, none, none] [] M (rI Q)
  refine Wp.path (k := 1) [] (C := []) (pc' := 1) (ls' := [some (.inr (.inr (4, i0))), some (.inr (.inr (4, i1))), none, none, none, none, none]) (st' := [.inr (.inr (4, i0))]) (M' := M) rfl trivial ?_
  refine Wp.call h rfl rfl (by decide) ?_
  rintro _ M1 ⟨r, rfl, h⟩
  show Wp 1 410 4 [some (.inr (.inr (4, i0))), some (.inr (.inr (4, i1))), none, none, none, none, none] [.inl r] M1 (rI Q)
  refine Wp.path (k := 2) [] (C := []) (pc' := 6) (ls' := [some (.inr (.inr (4, i0))), some (.inr (.inr (4, i1))), some (.inl r), none, none, none, none]) (st' := [.inr (.inr (4, i0))]) (M' := M1) rfl trivial ?_
  refine Wp.call h rfl rfl (by decide) ?_
  rintro _ M1_1 ⟨r_1, rfl, h⟩
  show Wp 1 410 9 [some (.inr (.inr (4, i0))), some (.inr (.inr (4, i1))), some (.inl r), none, none, none, none] [.inl r_1] M1_1 (rI Q)
  refine Wp.path (k := 2) [] (C := []) (pc' := 11) (ls' := [some (.inr (.inr (4, i0))), some (.inr (.inr (4, i1))), some (.inl r), some (.inl r_1), none, none, none]) (st' := [.inr (.inr (4, i1))]) (M' := M1_1) rfl trivial ?_
  refine Wp.call h rfl rfl (by decide) ?_
  rintro _ M1_2 ⟨r_2, rfl, h⟩
  show Wp 1 410 14 [some (.inr (.inr (4, i0))), some (.inr (.inr (4, i1))), some (.inl r), some (.inl r_1), none, none, none] [.inl r_2] M1_2 (rI Q)
  refine Wp.path (k := 2) [] (C := []) (pc' := 17) (ls' := [some (.inr (.inr (4, i0))), some (.inr (.inr (4, i1))), some (.inl r), some (.inl r_1), some (.inl r_2), none, none]) (st' := [.inr (.inr (4, i1))]) (M' := M1_2) rfl trivial ?_
  refine Wp.call h rfl rfl (by decide) ?_
  rintro _ M1_3 ⟨r_3, rfl, h⟩
  show Wp 1 410 20 [some (.inr (.inr (4, i0))), some (.inr (.inr (4, i1))), some (.inl r), some (.inl r_1), some (.inl r_2), none, none] [.inl r_3] M1_3 (rI Q)
  refine Wp.path (k := 3) [] (C := []) (pc' := 25) (ls' := [some (.inr (.inr (4, i0))), some (.inr (.inr (4, i1))), some (.inl r), some (.inl r_1), some (.inl r_2), some (.inl r_3), some (.inl 0)]) (st' := []) (M' := M1_3) rfl trivial ?_
  exact h
theorem s_410_25 {i0 : Nat} {i1 : Nat} {x2 : Int} {x3 : Int} {x4 : Int} {x5 : Int} {x6 : Int} {M : Mm} {Q : Int → Mm → Prop} (h : ((12 ≤ x6 → (Q 1 M)) ∧ (x6 < 12 → (((-2147483648 ≤ x3 + x6 ∧ x3 + x6 ≤ 2147483647)) ∧ (((-2147483648 ≤ x5 + x6 ∧ x5 + x6 ≤ 2147483647)) ∧ ((isr (atN 12 (M.1 500 i0) (x3 + x6)) x2 = isr (atN 12 (M.1 500 i1) (x5 + x6)) x4 → (((-2147483648 ≤ x6 + 1 ∧ x6 + 1 ≤ 2147483647)) ∧ (L_410_25 i0 i1 x2 x3 x4 x5 (x6 + 1) M Q))) ∧ (isr (atN 12 (M.1 500 i0) (x3 + x6)) x2 ≠ isr (atN 12 (M.1 500 i1) (x5 + x6)) x4 → (Q 0 M)))))))) : L_410_25 i0 i1 x2 x3 x4 x5 x6 M Q := by
  show Wp 1 410 25 [some (.inr (.inr (4, i0))), some (.inr (.inr (4, i1))), some (.inl x2), some (.inl x3), some (.inl x4), some (.inl x5), some (.inl x6)] [] M (rI Q)
  refine Wp.path (k := 2) [] (C := []) (pc' := 29) (ls' := [some (.inr (.inr (4, i0))), some (.inr (.inr (4, i1))), some (.inl x2), some (.inl x3), some (.inl x4), some (.inl x5), some (.inl x6)]) (st' := [.inl 12, .inl x6]) (M' := M) rfl trivial ?_
  rcases Int.lt_or_le (x6) (12) with c_1 | c_1
  · replace h := h.2 c_1
    refine Wp.path (k := 1) [0] (C := [x6 < 12]) (pc' := 32) (ls' := [some (.inr (.inr (4, i0))), some (.inr (.inr (4, i1))), some (.inl x2), some (.inl x3), some (.inl x4), some (.inl x5), some (.inl x6)]) (st' := []) (M' := M) rfl c_1 ?_
    refine Wp.path (k := 5) [] (C := [inR (x3 + x6)]) (pc' := 40) (ls' := [some (.inr (.inr (4, i0))), some (.inr (.inr (4, i1))), some (.inl x2), some (.inl x3), some (.inl x4), some (.inl x5), some (.inl x6)]) (st' := [.inl (x3 + x6), .inr (.inr (500, i0))]) (M' := M) rfl h.1 ?_
    replace h := h.2
    refine Wp.call (at_500) rfl rfl (by decide) ?_
    rintro v_ M_ ⟨eM_, ev_⟩
    rw [eM_, ev_]
    clear eM_ ev_ v_ M_
    show Wp 1 410 43 [some (.inr (.inr (4, i0))), some (.inr (.inr (4, i1))), some (.inl x2), some (.inl x3), some (.inl x4), some (.inl x5), some (.inl x6)] [.inl (atN 12 (M.1 500 i0) (x3 + x6))] M (rI Q)
    refine Wp.path (k := 7) [] (C := [inR (x5 + x6)]) (pc' := 54) (ls' := [some (.inr (.inr (4, i0))), some (.inr (.inr (4, i1))), some (.inl x2), some (.inl x3), some (.inl x4), some (.inl x5), some (.inl x6)]) (st' := [.inl (x5 + x6), .inr (.inr (500, i1)), .inl (isr (atN 12 (M.1 500 i0) (x3 + x6)) x2)]) (M' := M) rfl h.1 ?_
    replace h := h.2
    refine Wp.call (at_500) rfl rfl (by decide) ?_
    rintro v_ M_ ⟨eM_, ev_⟩
    rw [eM_, ev_]
    clear eM_ ev_ v_ M_
    show Wp 1 410 57 [some (.inr (.inr (4, i0))), some (.inr (.inr (4, i1))), some (.inl x2), some (.inl x3), some (.inl x4), some (.inl x5), some (.inl x6)] [.inl (atN 12 (M.1 500 i1) (x5 + x6)), .inl (isr (atN 12 (M.1 500 i0) (x3 + x6)) x2)] M (rI Q)
    refine Wp.path (k := 2) [] (C := []) (pc' := 60) (ls' := [some (.inr (.inr (4, i0))), some (.inr (.inr (4, i1))), some (.inl x2), some (.inl x3), some (.inl x4), some (.inl x5), some (.inl x6)]) (st' := [.inl (isr (atN 12 (M.1 500 i1) (x5 + x6)) x4), .inl (isr (atN 12 (M.1 500 i0) (x3 + x6)) x2)]) (M' := M) rfl trivial ?_
    rcases Decidable.em (isr (atN 12 (M.1 500 i0) (x3 + x6)) x2 = isr (atN 12 (M.1 500 i1) (x5 + x6)) x4) with c_2 | c_2
    · replace h := h.1 c_2
      refine Wp.path (k := 1) [1] (C := [isr (atN 12 (M.1 500 i0) (x3 + x6)) x2 = isr (atN 12 (M.1 500 i1) (x5 + x6)) x4]) (pc' := 65) (ls' := [some (.inr (.inr (4, i0))), some (.inr (.inr (4, i1))), some (.inl x2), some (.inl x3), some (.inl x4), some (.inl x5), some (.inl x6)]) (st' := []) (M' := M) rfl c_2 ?_
      refine Wp.path (k := 2) [] (C := [inR (x6 + 1)]) (pc' := 25) (ls' := [some (.inr (.inr (4, i0))), some (.inr (.inr (4, i1))), some (.inl x2), some (.inl x3), some (.inl x4), some (.inl x5), some (.inl (x6 + 1))]) (st' := []) (M' := M) rfl h.1 ?_
      replace h := h.2
      exact h
    · replace h := h.2 c_2
      refine Wp.path (k := 1) [0] (C := [isr (atN 12 (M.1 500 i0) (x3 + x6)) x2 ≠ isr (atN 12 (M.1 500 i1) (x5 + x6)) x4]) (pc' := 63) (ls' := [some (.inr (.inr (4, i0))), some (.inr (.inr (4, i1))), some (.inl x2), some (.inl x3), some (.inl x4), some (.inl x5), some (.inl x6)]) (st' := []) (M' := M) rfl c_2 ?_
      refine Wp.path (k := 1) [] (C := []) (pc' := 64) (ls' := [some (.inr (.inr (4, i0))), some (.inr (.inr (4, i1))), some (.inl x2), some (.inl x3), some (.inl x4), some (.inl x5), some (.inl x6)]) (st' := [.inl 0]) (M' := M) rfl trivial ?_
      exact Wp.ret rfl ⟨_, rfl, h⟩
  · replace h := h.1 c_1
    refine Wp.path (k := 1) [1] (C := [12 ≤ x6]) (pc' := 71) (ls' := [some (.inr (.inr (4, i0))), some (.inr (.inr (4, i1))), some (.inl x2), some (.inl x3), some (.inl x4), some (.inl x5), some (.inl x6)]) (st' := []) (M' := M) rfl c_1 ?_
    refine Wp.path (k := 1) [] (C := []) (pc' := 72) (ls' := [some (.inr (.inr (4, i0))), some (.inr (.inr (4, i1))), some (.inl x2), some (.inl x3), some (.inl x4), some (.inl x5), some (.inl x6)]) (st' := [.inl 1]) (M' := M) rfl trivial ?_
    exact Wp.ret rfl ⟨_, rfl, h⟩
/-- X4_selfMaps -/
def E_409 (i0 : Nat) (i1 : Nat) (M : Mm) (Q : Int → Mm → Prop) : Prop := Ev 2 409 [.inr (.inr (4, i0)), .inr (.inr (4, i1))] M (rI Q)
theorem m_409 {i0 : Nat} {i1 : Nat} {M : Mm} {Q Q1 : Int → Mm → Prop} (h : E_409 i0 i1 M Q) (k : (∀ r M1, Q r M1 → Q1 r M1)) : E_409 i0 i1 M Q1 := Ev.mono h (fun v M1 ⟨r, h1, h2⟩ => ⟨r, h1, k _ _ h2⟩)
def L_409_9 (i0 : Nat) (i1 : Nat) (x2 : Int) (x3 : Int) (M : Mm) (Q : Int → Mm → Prop) : Prop := Wp 2 409 9 [some (.inr (.inr (4, i0))), some (.inr (.inr (4, i1))), some (.inl x2), some (.inl x3)] [] M (rI Q)
theorem s_409_0 {i0 : Nat} {i1 : Nat} {M : Mm} {Q : Int → Mm → Prop} (h : (E_404 i1 i0 M (fun M1 : Mm => (L_409_9 i0 i1 0 0 M1 Q)))) : E_409 i0 i1 M Q := by
  show Wp 2 409 0 [some (.inr (.inr (4, i0))), some (.inr (.inr (4, i1))), none, none] [] M (rI Q)
  refine Wp.path (k := 2) [] (C := []) (pc' := 2) (ls' := [some (.inr (.inr (4, i0))), some (.inr (.inr (4, i1))), none, none]) (st' := [.inr (.inr (4, i0)), .inr (.inr (4, i1))]) (M' := M) rfl trivial ?_
  refine Wp.call h rfl rfl (by decide) ?_
  rintro _ M1 ⟨rfl, h⟩
  show Wp 2 409 5 [some (.inr (.inr (4, i0))), some (.inr (.inr (4, i1))), none, none] [] M1 (rI Q)
  refine Wp.path (k := 4) [] (C := []) (pc' := 9) (ls' := [some (.inr (.inr (4, i0))), some (.inr (.inr (4, i1))), some (.inl 0), some (.inl 0)]) (st' := []) (M' := M1) rfl trivial ?_
  exact h
theorem s_409_9 {i0 : Nat} {i1 : Nat} {x2 : Int} {x3 : Int} {M : Mm} {Q : Int → Mm → Prop} (h : ((8 ≤ x3 → (Q x2 M)) ∧ (x3 < 8 → (E_410 i1 i0 M (fun (r : Int) (M1 : Mm) => ((r ≠ 0 → ((-2147483648 ≤ x2 + 1 ∧ x2 + 1 ≤ 2147483647))) ∧ (∀ x2_1 : Int, x2_1 = (if r = 0 then x2 else (x2 + 1)) → (E_407 i1 M1 (fun M1_1 : Mm => ((x3 ≠ 3 → (((-2147483648 ≤ x3 + 1 ∧ x3 + 1 ≤ 2147483647)) ∧ (L_409_9 i0 i1 x2_1 (x3 + 1) M1_1 Q))) ∧ (x3 = 3 → (E_408 i1 M1_1 (fun M1_2 : Mm => ((-2147483648 ≤ x3 + 1 ∧ x3 + 1 ≤ 2147483647)) ∧ (L_409_9 i0 i1 x2_1 (x3 + 1) M1_2 Q)))))))))))))) : L_409_9 i0 i1 x2 x3 M Q := by
  show Wp 2 409 9 [some (.inr (.inr (4, i0))), some (.inr (.inr (4, i1))), some (.inl x2), some (.inl x3)] [] M (rI Q)
  refine Wp.path (k := 2) [] (C := []) (pc' := 12) (ls' := [some (.inr (.inr (4, i0))), some (.inr (.inr (4, i1))), some (.inl x2), some (.inl x3)]) (st' := [.inl 8, .inl x3]) (M' := M) rfl trivial ?_
  rcases Int.lt_or_le (x3) (8) with c_1 | c_1
  · replace h := h.2 c_1
    refine Wp.path (k := 1) [0] (C := [x3 < 8]) (pc' := 15) (ls' := [some (.inr (.inr (4, i0))), some (.inr (.inr (4, i1))), some (.inl x2), some (.inl x3)]) (st' := []) (M' := M) rfl c_1 ?_
    refine Wp.path (k := 2) [] (C := []) (pc' := 17) (ls' := [some (.inr (.inr (4, i0))), some (.inr (.inr (4, i1))), some (.inl x2), some (.inl x3)]) (st' := [.inr (.inr (4, i0)), .inr (.inr (4, i1))]) (M' := M) rfl trivial ?_
    refine Wp.call h rfl rfl (by decide) ?_
    rintro _ M1 ⟨r, rfl, h⟩
    show Wp 2 409 20 [some (.inr (.inr (4, i0))), some (.inr (.inr (4, i1))), some (.inl x2), some (.inl x3)] [.inl r] M1 (rI Q)
    have g3_0 := h.1
    replace h := h.2
    have k_3 : ∀ x2_1 : Int, x2_1 = (if r = 0 then x2 else (x2 + 1)) → Wp 2 409 26 [some (.inr (.inr (4, i0))), some (.inr (.inr (4, i1))), some (.inl x2_1), some (.inl x3)] [] M1 (rI Q) := by
      intro x2_1 e_x2_1
      replace h := h x2_1 e_x2_1
      refine Wp.path (k := 1) [] (C := []) (pc' := 27) (ls' := [some (.inr (.inr (4, i0))), some (.inr (.inr (4, i1))), some (.inl x2_1), some (.inl x3)]) (st' := [.inr (.inr (4, i1))]) (M' := M1) rfl trivial ?_
      refine Wp.call h rfl rfl (by decide) ?_
      rintro _ M1_1 ⟨rfl, h⟩
      show Wp 2 409 30 [some (.inr (.inr (4, i0))), some (.inr (.inr (4, i1))), some (.inl x2_1), some (.inl x3)] [] M1_1 (rI Q)
      refine Wp.path (k := 2) [] (C := []) (pc' := 32) (ls' := [some (.inr (.inr (4, i0))), some (.inr (.inr (4, i1))), some (.inl x2_1), some (.inl x3)]) (st' := [.inl 3, .inl x3]) (M' := M1_1) rfl trivial ?_
      rcases Decidable.em (x3 = 3) with c_2 | c_2
      · replace h := h.2 c_2
        refine Wp.path (k := 1) [0] (C := [x3 = 3]) (pc' := 35) (ls' := [some (.inr (.inr (4, i0))), some (.inr (.inr (4, i1))), some (.inl x2_1), some (.inl x3)]) (st' := []) (M' := M1_1) rfl c_2 ?_
        refine Wp.path (k := 1) [] (C := []) (pc' := 36) (ls' := [some (.inr (.inr (4, i0))), some (.inr (.inr (4, i1))), some (.inl x2_1), some (.inl x3)]) (st' := [.inr (.inr (4, i1))]) (M' := M1_1) rfl trivial ?_
        refine Wp.call h rfl rfl (by decide) ?_
        rintro _ M1_2 ⟨rfl, h⟩
        show Wp 2 409 39 [some (.inr (.inr (4, i0))), some (.inr (.inr (4, i1))), some (.inl x2_1), some (.inl x3)] [] M1_2 (rI Q)
        refine Wp.path (k := 2) [] (C := [inR (x3 + 1)]) (pc' := 9) (ls' := [some (.inr (.inr (4, i0))), some (.inr (.inr (4, i1))), some (.inl x2_1), some (.inl (x3 + 1))]) (st' := []) (M' := M1_2) rfl h.1 ?_
        replace h := h.2
        exact h
      · replace h := h.1 c_2
        refine Wp.path (k := 1) [1] (C := [x3 ≠ 3]) (pc' := 39) (ls' := [some (.inr (.inr (4, i0))), some (.inr (.inr (4, i1))), some (.inl x2_1), some (.inl x3)]) (st' := []) (M' := M1_1) rfl c_2 ?_
        refine Wp.path (k := 2) [] (C := [inR (x3 + 1)]) (pc' := 9) (ls' := [some (.inr (.inr (4, i0))), some (.inr (.inr (4, i1))), some (.inl x2_1), some (.inl (x3 + 1))]) (st' := []) (M' := M1_1) rfl h.1 ?_
        replace h := h.2
        exact h
    clear h
    rcases Decidable.em (r = 0) with c_4 | c_4
    · refine Wp.path (k := 1) [1] (C := [r = 0]) (pc' := 26) (ls' := [some (.inr (.inr (4, i0))), some (.inr (.inr (4, i1))), some (.inl x2), some (.inl x3)]) (st' := []) (M' := M1) rfl c_4 ?_
      exact k_3 _ (by rw [if_pos c_4])
    · refine Wp.path (k := 1) [0] (C := [r ≠ 0]) (pc' := 23) (ls' := [some (.inr (.inr (4, i0))), some (.inr (.inr (4, i1))), some (.inl x2), some (.inl x3)]) (st' := []) (M' := M1) rfl c_4 ?_
      refine Wp.path (k := 1) [] (C := [inR (x2 + 1)]) (pc' := 26) (ls' := [some (.inr (.inr (4, i0))), some (.inr (.inr (4, i1))), some (.inl (x2 + 1)), some (.inl x3)]) (st' := []) (M' := M1) rfl (g3_0 c_4) ?_
      exact k_3 _ (by rw [if_neg c_4])
  · replace h := h.1 c_1
    refine Wp.path (k := 1) [1] (C := [8 ≤ x3]) (pc' := 45) (ls' := [some (.inr (.inr (4, i0))), some (.inr (.inr (4, i1))), some (.inl x2), some (.inl x3)]) (st' := []) (M' := M) rfl c_1 ?_
    refine Wp.path (k := 1) [] (C := []) (pc' := 46) (ls' := [some (.inr (.inr (4, i0))), some (.inr (.inr (4, i1))), some (.inl x2), some (.inl x3)]) (st' := [.inl x2]) (M' := M) rfl trivial ?_
    exact Wp.ret rfl ⟨_, rfl, h⟩
/-- X4_isCorner -/
def E_414 (i0 : Nat) (x1 : Int) (x2 : Int) (M : Mm) (Q : Int → Mm → Prop) : Prop := Ev 1 414 [.inr (.inr (4, i0)), .inl x1, .inl x2] M (rI Q)
theorem m_414 {i0 : Nat} {x1 : Int} {x2 : Int} {M : Mm} {Q Q1 : Int → Mm → Prop} (h : E_414 i0 x1 x2 M Q) (k : (∀ r M1, Q r M1 → Q1 r M1)) : E_414 i0 x1 x2 M Q1 := Ev.mono h (fun v M1 ⟨r, h1, h2⟩ => ⟨r, h1, k _ _ h2⟩)
theorem s_414_0 {i0 : Nat} {x1 : Int} {x2 : Int} {M : Mm} {Q : Int → Mm → Prop} (h : ((-2147483648 ≤ x1 - 1 ∧ x1 - 1 ≤ 2147483647) ∧ (-2147483648 ≤ x2 - 1 ∧ x2 - 1 ≤ 2147483647)) ∧ (∀ x3 : Int, x3 = hasV (M.1 500 i0) (x1 - 1) (x2 - 1) → (((-2147483648 ≤ x2 - 1 ∧ x2 - 1 ≤ 2147483647)) ∧ (∀ x4 : Int, x4 = hasV (M.1 500 i0) x1 (x2 - 1) → (((-2147483648 ≤ x1 - 1 ∧ x1 - 1 ≤ 2147483647)) ∧ (∀ x5 : Int, x5 = hasV (M.1 500 i0) (x1 - 1) x2 → (∀ x6 : Int, x6 = hasV (M.1 500 i0) x1 x2 → (∀ b : Int, b = (if x3 ≠ x4 then 0 else (if x5 ≠ x6 then 0 else 1)) → (∀ b_1 : Int, b_1 = (if x3 ≠ x5 then 0 else (if x4 ≠ x6 then 0 else 1)) → (∀ b_2 : Int, b_2 = (if b ≠ 0 then 0 else (if b_1 ≠ 0 then 0 else 1)) → ((b_2 = 0 ∨ b_2 = 1) ∧ (Q b_2 M)))))))))))) : E_414 i0 x1 x2 M Q := by
  show Wp 1 414 0 [some (.inr (.inr (4, i0))), some (.inl x1), some (.inl x2), none, none, none, none, none, none] [] M (rI Q)
  refine Wp.path (k := 7) [] (C := [inR (x1 - 1), inR (x2 - 1)]) (pc' := 7) (ls' := [some (.inr (.inr (4, i0))), some (.inl x1), some (.inl x2), none, none, none, none, none, none]) (st' := [.inl (x2 - 1), .inl (x1 - 1), .inr (.inr (4, i0))]) (M' := M) rfl ⟨h.1.1, h.1.2⟩ ?_
  replace h := h.2
  refine Wp.call (e401) rfl rfl (by decide) ?_
  rintro v_ M_ ⟨eM_, ev_⟩
  rw [eM_, ev_]
  clear eM_ ev_ v_ M_
  show Wp 1 414 10 [some (.inr (.inr (4, i0))), some (.inl x1), some (.inl x2), none, none, none, none, none, none] [.inl (hasV (M.1 500 i0) (x1 - 1) (x2 - 1))] M (rI Q)
  refine Wp.path (k := 1) [] (C := []) (pc' := 11) (ls' := [some (.inr (.inr (4, i0))), some (.inl x1), some (.inl x2), some (.inl (hasV (M.1 500 i0) (x1 - 1) (x2 - 1))), none, none, none, none, none]) (st' := []) (M' := M) rfl trivial ?_
  refine Bd (P := fun x3 : Int => Wp 1 414 11 [some (.inr (.inr (4, i0))), some (.inl x1), some (.inl x2), some (.inl x3), none, none, none, none, none] [] M (rI Q)) ?_
  intro x3 e_x3
  replace h := h x3 e_x3
  refine Wp.path (k := 5) [] (C := [inR (x2 - 1)]) (pc' := 16) (ls' := [some (.inr (.inr (4, i0))), some (.inl x1), some (.inl x2), some (.inl x3), none, none, none, none, none]) (st' := [.inl (x2 - 1), .inl x1, .inr (.inr (4, i0))]) (M' := M) rfl h.1 ?_
  replace h := h.2
  refine Wp.call (e401) rfl rfl (by decide) ?_
  rintro v_ M_ ⟨eM_, ev_⟩
  rw [eM_, ev_]
  clear eM_ ev_ v_ M_
  show Wp 1 414 19 [some (.inr (.inr (4, i0))), some (.inl x1), some (.inl x2), some (.inl x3), none, none, none, none, none] [.inl (hasV (M.1 500 i0) x1 (x2 - 1))] M (rI Q)
  refine Wp.path (k := 1) [] (C := []) (pc' := 21) (ls' := [some (.inr (.inr (4, i0))), some (.inl x1), some (.inl x2), some (.inl x3), some (.inl (hasV (M.1 500 i0) x1 (x2 - 1))), none, none, none, none]) (st' := []) (M' := M) rfl trivial ?_
  refine Bd (P := fun x4 : Int => Wp 1 414 21 [some (.inr (.inr (4, i0))), some (.inl x1), some (.inl x2), some (.inl x3), some (.inl x4), none, none, none, none] [] M (rI Q)) ?_
  intro x4 e_x4
  replace h := h x4 e_x4
  refine Wp.path (k := 5) [] (C := [inR (x1 - 1)]) (pc' := 26) (ls' := [some (.inr (.inr (4, i0))), some (.inl x1), some (.inl x2), some (.inl x3), some (.inl x4), none, none, none, none]) (st' := [.inl x2, .inl (x1 - 1), .inr (.inr (4, i0))]) (M' := M) rfl h.1 ?_
  replace h := h.2
  refine Wp.call (e401) rfl rfl (by decide) ?_
  rintro v_ M_ ⟨eM_, ev_⟩
  rw [eM_, ev_]
  clear eM_ ev_ v_ M_
  show Wp 1 414 29 [some (.inr (.inr (4, i0))), some (.inl x1), some (.inl x2), some (.inl x3), some (.inl x4), none, none, none, none] [.inl (hasV (M.1 500 i0) (x1 - 1) x2)] M (rI Q)
  refine Wp.path (k := 1) [] (C := []) (pc' := 31) (ls' := [some (.inr (.inr (4, i0))), some (.inl x1), some (.inl x2), some (.inl x3), some (.inl x4), some (.inl (hasV (M.1 500 i0) (x1 - 1) x2)), none, none, none]) (st' := []) (M' := M) rfl trivial ?_
  refine Bd (P := fun x5 : Int => Wp 1 414 31 [some (.inr (.inr (4, i0))), some (.inl x1), some (.inl x2), some (.inl x3), some (.inl x4), some (.inl x5), none, none, none] [] M (rI Q)) ?_
  intro x5 e_x5
  replace h := h x5 e_x5
  refine Wp.path (k := 3) [] (C := []) (pc' := 34) (ls' := [some (.inr (.inr (4, i0))), some (.inl x1), some (.inl x2), some (.inl x3), some (.inl x4), some (.inl x5), none, none, none]) (st' := [.inl x2, .inl x1, .inr (.inr (4, i0))]) (M' := M) rfl trivial ?_
  refine Wp.call (e401) rfl rfl (by decide) ?_
  rintro v_ M_ ⟨eM_, ev_⟩
  rw [eM_, ev_]
  clear eM_ ev_ v_ M_
  show Wp 1 414 37 [some (.inr (.inr (4, i0))), some (.inl x1), some (.inl x2), some (.inl x3), some (.inl x4), some (.inl x5), none, none, none] [.inl (hasV (M.1 500 i0) x1 x2)] M (rI Q)
  refine Wp.path (k := 1) [] (C := []) (pc' := 39) (ls' := [some (.inr (.inr (4, i0))), some (.inl x1), some (.inl x2), some (.inl x3), some (.inl x4), some (.inl x5), some (.inl (hasV (M.1 500 i0) x1 x2)), none, none]) (st' := []) (M' := M) rfl trivial ?_
  refine Bd (P := fun x6 : Int => Wp 1 414 39 [some (.inr (.inr (4, i0))), some (.inl x1), some (.inl x2), some (.inl x3), some (.inl x4), some (.inl x5), some (.inl x6), none, none] [] M (rI Q)) ?_
  intro x6 e_x6
  replace h := h x6 e_x6
  refine Wp.path (k := 2) [] (C := []) (pc' := 42) (ls' := [some (.inr (.inr (4, i0))), some (.inl x1), some (.inl x2), some (.inl x3), some (.inl x4), some (.inl x5), some (.inl x6), none, none]) (st' := [.inl x4, .inl x3]) (M' := M) rfl trivial ?_
  have k_7 : ∀ b : Int, b = (if x3 ≠ x4 then 0 else (if x5 ≠ x6 then 0 else 1)) → Wp 1 414 57 [some (.inr (.inr (4, i0))), some (.inl x1), some (.inl x2), some (.inl x3), some (.inl x4), some (.inl x5), some (.inl x6), none, none] [.inl b] M (rI Q) := by
    intro b e_b
    replace h := h b e_b
    refine Wp.path (k := 3) [] (C := []) (pc' := 62) (ls' := [some (.inr (.inr (4, i0))), some (.inl x1), some (.inl x2), some (.inl x3), some (.inl x4), some (.inl x5), some (.inl x6), some (.inl b), none]) (st' := [.inl x5, .inl x3]) (M' := M) rfl trivial ?_
    have k_4 : ∀ b_1 : Int, b_1 = (if x3 ≠ x5 then 0 else (if x4 ≠ x6 then 0 else 1)) → Wp 1 414 77 [some (.inr (.inr (4, i0))), some (.inl x1), some (.inl x2), some (.inl x3), some (.inl x4), some (.inl x5), some (.inl x6), some (.inl b), none] [.inl b_1] M (rI Q) := by
      intro b_1 e_b_1
      replace h := h b_1 e_b_1
      refine Wp.path (k := 2) [] (C := []) (pc' := 81) (ls' := [some (.inr (.inr (4, i0))), some (.inl x1), some (.inl x2), some (.inl x3), some (.inl x4), some (.inl x5), some (.inl x6), some (.inl b), some (.inl b_1)]) (st' := [.inl b]) (M' := M) rfl trivial ?_
      have k_1 : ∀ b_2 : Int, b_2 = (if b ≠ 0 then 0 else (if b_1 ≠ 0 then 0 else 1)) → Wp 1 414 94 [some (.inr (.inr (4, i0))), some (.inl x1), some (.inl x2), some (.inl x3), some (.inl x4), some (.inl x5), some (.inl x6), some (.inl b), some (.inl b_1)] [.inl b_2] M (rI Q) := by
        intro b_2 e_b_2
        replace h := h b_2 e_b_2
        exact Wp.ret (by rcases h.1 with e_r | e_r <;> rw [e_r] <;> rfl) ⟨_, rfl, h.2⟩
      clear h
      rcases Decidable.em (b = 0) with c_2 | c_2
      · refine Wp.path (k := 1) [0] (C := [b = 0]) (pc' := 84) (ls' := [some (.inr (.inr (4, i0))), some (.inl x1), some (.inl x2), some (.inl x3), some (.inl x4), some (.inl x5), some (.inl x6), some (.inl b), some (.inl b_1)]) (st' := []) (M' := M) rfl c_2 ?_
        refine Wp.path (k := 1) [] (C := []) (pc' := 86) (ls' := [some (.inr (.inr (4, i0))), some (.inl x1), some (.inl x2), some (.inl x3), some (.inl x4), some (.inl x5), some (.inl x6), some (.inl b), some (.inl b_1)]) (st' := [.inl b_1]) (M' := M) rfl trivial ?_
        rcases Decidable.em (b_1 = 0) with c_3 | c_3
        · refine Wp.path (k := 1) [0] (C := [b_1 = 0]) (pc' := 89) (ls' := [some (.inr (.inr (4, i0))), some (.inl x1), some (.inl x2), some (.inl x3), some (.inl x4), some (.inl x5), some (.inl x6), some (.inl b), some (.inl b_1)]) (st' := []) (M' := M) rfl c_3 ?_
          refine Wp.path (k := 2) [] (C := []) (pc' := 94) (ls' := [some (.inr (.inr (4, i0))), some (.inl x1), some (.inl x2), some (.inl x3), some (.inl x4), some (.inl x5), some (.inl x6), some (.inl b), some (.inl b_1)]) (st' := [.inl 1]) (M' := M) rfl trivial ?_
          exact k_1 _ (by rw [if_neg (not_not_intro c_2), if_neg (not_not_intro c_3)])
        · refine Wp.path (k := 1) [1] (C := [b_1 ≠ 0]) (pc' := 93) (ls' := [some (.inr (.inr (4, i0))), some (.inl x1), some (.inl x2), some (.inl x3), some (.inl x4), some (.inl x5), some (.inl x6), some (.inl b), some (.inl b_1)]) (st' := []) (M' := M) rfl c_3 ?_
          refine Wp.path (k := 1) [] (C := []) (pc' := 94) (ls' := [some (.inr (.inr (4, i0))), some (.inl x1), some (.inl x2), some (.inl x3), some (.inl x4), some (.inl x5), some (.inl x6), some (.inl b), some (.inl b_1)]) (st' := [.inl 0]) (M' := M) rfl trivial ?_
          exact k_1 _ (by rw [if_neg (not_not_intro c_2), if_pos c_3])
      · refine Wp.path (k := 1) [1] (C := [b ≠ 0]) (pc' := 93) (ls' := [some (.inr (.inr (4, i0))), some (.inl x1), some (.inl x2), some (.inl x3), some (.inl x4), some (.inl x5), some (.inl x6), some (.inl b), some (.inl b_1)]) (st' := []) (M' := M) rfl c_2 ?_
        refine Wp.path (k := 1) [] (C := []) (pc' := 94) (ls' := [some (.inr (.inr (4, i0))), some (.inl x1), some (.inl x2), some (.inl x3), some (.inl x4), some (.inl x5), some (.inl x6), some (.inl b), some (.inl b_1)]) (st' := [.inl 0]) (M' := M) rfl trivial ?_
        exact k_1 _ (by rw [if_pos c_2])
    clear h
    rcases Decidable.em (x3 = x5) with c_5 | c_5
    · refine Wp.path (k := 1) [0] (C := [x3 = x5]) (pc' := 65) (ls' := [some (.inr (.inr (4, i0))), some (.inl x1), some (.inl x2), some (.inl x3), some (.inl x4), some (.inl x5), some (.inl x6), some (.inl b), none]) (st' := []) (M' := M) rfl c_5 ?_
      refine Wp.path (k := 2) [] (C := []) (pc' := 69) (ls' := [some (.inr (.inr (4, i0))), some (.inl x1), some (.inl x2), some (.inl x3), some (.inl x4), some (.inl x5), some (.inl x6), some (.inl b), none]) (st' := [.inl x6, .inl x4]) (M' := M) rfl trivial ?_
      rcases Decidable.em (x4 = x6) with c_6 | c_6
      · refine Wp.path (k := 1) [0] (C := [x4 = x6]) (pc' := 72) (ls' := [some (.inr (.inr (4, i0))), some (.inl x1), some (.inl x2), some (.inl x3), some (.inl x4), some (.inl x5), some (.inl x6), some (.inl b), none]) (st' := []) (M' := M) rfl c_6 ?_
        refine Wp.path (k := 2) [] (C := []) (pc' := 77) (ls' := [some (.inr (.inr (4, i0))), some (.inl x1), some (.inl x2), some (.inl x3), some (.inl x4), some (.inl x5), some (.inl x6), some (.inl b), none]) (st' := [.inl 1]) (M' := M) rfl trivial ?_
        exact k_4 _ (by rw [if_neg (not_not_intro c_5), if_neg (not_not_intro c_6)])
      · refine Wp.path (k := 1) [1] (C := [x4 ≠ x6]) (pc' := 76) (ls' := [some (.inr (.inr (4, i0))), some (.inl x1), some (.inl x2), some (.inl x3), some (.inl x4), some (.inl x5), some (.inl x6), some (.inl b), none]) (st' := []) (M' := M) rfl c_6 ?_
        refine Wp.path (k := 1) [] (C := []) (pc' := 77) (ls' := [some (.inr (.inr (4, i0))), some (.inl x1), some (.inl x2), some (.inl x3), some (.inl x4), some (.inl x5), some (.inl x6), some (.inl b), none]) (st' := [.inl 0]) (M' := M) rfl trivial ?_
        exact k_4 _ (by rw [if_neg (not_not_intro c_5), if_pos c_6])
    · refine Wp.path (k := 1) [1] (C := [x3 ≠ x5]) (pc' := 76) (ls' := [some (.inr (.inr (4, i0))), some (.inl x1), some (.inl x2), some (.inl x3), some (.inl x4), some (.inl x5), some (.inl x6), some (.inl b), none]) (st' := []) (M' := M) rfl c_5 ?_
      refine Wp.path (k := 1) [] (C := []) (pc' := 77) (ls' := [some (.inr (.inr (4, i0))), some (.inl x1), some (.inl x2), some (.inl x3), some (.inl x4), some (.inl x5), some (.inl x6), some (.inl b), none]) (st' := [.inl 0]) (M' := M) rfl trivial ?_
      exact k_4 _ (by rw [if_pos c_5])
  clear h
  rcases Decidable.em (x3 = x4) with c_8 | c_8
  · refine Wp.path (k := 1) [0] (C := [x3 = x4]) (pc' := 45) (ls' := [some (.inr (.inr (4, i0))), some (.inl x1), some (.inl x2), some (.inl x3), some (.inl x4), some (.inl x5), some (.inl x6), none, none]) (st' := []) (M' := M) rfl c_8 ?_
    refine Wp.path (k := 2) [] (C := []) (pc' := 49) (ls' := [some (.inr (.inr (4, i0))), some (.inl x1), some (.inl x2), some (.inl x3), some (.inl x4), some (.inl x5), some (.inl x6), none, none]) (st' := [.inl x6, .inl x5]) (M' := M) rfl trivial ?_
    rcases Decidable.em (x5 = x6) with c_9 | c_9
    · refine Wp.path (k := 1) [0] (C := [x5 = x6]) (pc' := 52) (ls' := [some (.inr (.inr (4, i0))), some (.inl x1), some (.inl x2), some (.inl x3), some (.inl x4), some (.inl x5), some (.inl x6), none, none]) (st' := []) (M' := M) rfl c_9 ?_
      refine Wp.path (k := 2) [] (C := []) (pc' := 57) (ls' := [some (.inr (.inr (4, i0))), some (.inl x1), some (.inl x2), some (.inl x3), some (.inl x4), some (.inl x5), some (.inl x6), none, none]) (st' := [.inl 1]) (M' := M) rfl trivial ?_
      exact k_7 _ (by rw [if_neg (not_not_intro c_8), if_neg (not_not_intro c_9)])
    · refine Wp.path (k := 1) [1] (C := [x5 ≠ x6]) (pc' := 56) (ls' := [some (.inr (.inr (4, i0))), some (.inl x1), some (.inl x2), some (.inl x3), some (.inl x4), some (.inl x5), some (.inl x6), none, none]) (st' := []) (M' := M) rfl c_9 ?_
      refine Wp.path (k := 1) [] (C := []) (pc' := 57) (ls' := [some (.inr (.inr (4, i0))), some (.inl x1), some (.inl x2), some (.inl x3), some (.inl x4), some (.inl x5), some (.inl x6), none, none]) (st' := [.inl 0]) (M' := M) rfl trivial ?_
      exact k_7 _ (by rw [if_neg (not_not_intro c_8), if_pos c_9])
  · refine Wp.path (k := 1) [1] (C := [x3 ≠ x4]) (pc' := 56) (ls' := [some (.inr (.inr (4, i0))), some (.inl x1), some (.inl x2), some (.inl x3), some (.inl x4), some (.inl x5), some (.inl x6), none, none]) (st' := []) (M' := M) rfl c_8 ?_
    refine Wp.path (k := 1) [] (C := []) (pc' := 57) (ls' := [some (.inr (.inr (4, i0))), some (.inl x1), some (.inl x2), some (.inl x3), some (.inl x4), some (.inl x5), some (.inl x6), none, none]) (st' := [.inl 0]) (M' := M) rfl trivial ?_
    exact k_7 _ (by rw [if_pos c_8])
/-- X4_cornerPoints -/
def E_413 (i0 : Nat) (M : Mm) (Q : Int → Mm → Prop) : Prop := Ev 2 413 [.inr (.inr (4, i0))] M (rI Q)
theorem m_413 {i0 : Nat} {M : Mm} {Q Q1 : Int → Mm → Prop} (h : E_413 i0 M Q) (k : (∀ r M1, Q r M1 → Q1 r M1)) : E_413 i0 M Q1 := Ev.mono h (fun v M1 ⟨r, h1, h2⟩ => ⟨r, h1, k _ _ h2⟩)
def L_413_4 (i0 : Nat) (x1 : Int) (x2 : Int) (M : Mm) (Q : Int → Mm → Prop) : Prop := ∀ o3 : Option Vv, Wp 2 413 4 [some (.inr (.inr (4, i0))), some (.inl x1), some (.inl x2), o3] [] M (rI Q)
def L_413_12 (i0 : Nat) (x1 : Int) (x2 : Int) (x3 : Int) (M : Mm) (Q : Int → Mm → Prop) : Prop := Wp 2 413 12 [some (.inr (.inr (4, i0))), some (.inl x1), some (.inl x2), some (.inl x3)] [] M (rI Q)
theorem s_413_0 {i0 : Nat} {M : Mm} {Q : Int → Mm → Prop} (h : (L_413_4 i0 0 0 M Q)) : E_413 i0 M Q := by
  show Wp 2 413 0 [some (.inr (.inr (4, i0))), none, none, none] [] M (rI Q)
  refine Wp.path (k := 4) [] (C := []) (pc' := 4) (ls' := [some (.inr (.inr (4, i0))), some (.inl 0), some (.inl 0), none]) (st' := []) (M' := M) rfl trivial ?_
  exact h _
theorem s_413_4 {i0 : Nat} {x1 : Int} {x2 : Int} {M : Mm} {Q : Int → Mm → Prop} (h : ((12 < x2 → (Q x1 M)) ∧ (x2 ≤ 12 → (L_413_12 i0 x1 x2 0 M Q)))) : L_413_4 i0 x1 x2 M Q := by
  intro o3
  show Wp 2 413 4 [some (.inr (.inr (4, i0))), some (.inl x1), some (.inl x2), o3] [] M (rI Q)
  refine Wp.path (k := 2) [] (C := []) (pc' := 7) (ls' := [some (.inr (.inr (4, i0))), some (.inl x1), some (.inl x2), o3]) (st' := [.inl 12, .inl x2]) (M' := M) rfl trivial ?_
  rcases Int.lt_or_le (12) (x2) with c_1 | c_1
  · replace h := h.1 c_1
    refine Wp.path (k := 1) [1] (C := [12 < x2]) (pc' := 42) (ls' := [some (.inr (.inr (4, i0))), some (.inl x1), some (.inl x2), o3]) (st' := []) (M' := M) rfl c_1 ?_
    refine Wp.path (k := 1) [] (C := []) (pc' := 43) (ls' := [some (.inr (.inr (4, i0))), some (.inl x1), some (.inl x2), o3]) (st' := [.inl x1]) (M' := M) rfl trivial ?_
    exact Wp.ret rfl ⟨_, rfl, h⟩
  · replace h := h.2 c_1
    refine Wp.path (k := 1) [0] (C := [x2 ≤ 12]) (pc' := 10) (ls' := [some (.inr (.inr (4, i0))), some (.inl x1), some (.inl x2), o3]) (st' := []) (M' := M) rfl c_1 ?_
    refine Wp.path (k := 2) [] (C := []) (pc' := 12) (ls' := [some (.inr (.inr (4, i0))), some (.inl x1), some (.inl x2), some (.inl 0)]) (st' := []) (M' := M) rfl trivial ?_
    exact h
theorem s_413_12 {i0 : Nat} {x1 : Int} {x2 : Int} {x3 : Int} {M : Mm} {Q : Int → Mm → Prop} (h : ((12 < x3 → (((-2147483648 ≤ x2 + 1 ∧ x2 + 1 ≤ 2147483647)) ∧ (L_413_4 i0 x1 (x2 + 1) M Q))) ∧ (x3 ≤ 12 → (E_414 i0 x3 x2 M (fun (r : Int) (M1 : Mm) => ((r ≠ 0 → ((-2147483648 ≤ x1 + 1 ∧ x1 + 1 ≤ 2147483647))) ∧ (∀ x1_1 : Int, x1_1 = (if r = 0 then x1 else (x1 + 1)) → (((-2147483648 ≤ x3 + 1 ∧ x3 + 1 ≤ 2147483647)) ∧ (L_413_12 i0 x1_1 x2 (x3 + 1) M1 Q))))))))) : L_413_12 i0 x1 x2 x3 M Q := by
  show Wp 2 413 12 [some (.inr (.inr (4, i0))), some (.inl x1), some (.inl x2), some (.inl x3)] [] M (rI Q)
  refine Wp.path (k := 2) [] (C := []) (pc' := 15) (ls' := [some (.inr (.inr (4, i0))), some (.inl x1), some (.inl x2), some (.inl x3)]) (st' := [.inl 12, .inl x3]) (M' := M) rfl trivial ?_
  rcases Int.lt_or_le (12) (x3) with c_1 | c_1
  · replace h := h.1 c_1
    refine Wp.path (k := 1) [1] (C := [12 < x3]) (pc' := 36) (ls' := [some (.inr (.inr (4, i0))), some (.inl x1), some (.inl x2), some (.inl x3)]) (st' := []) (M' := M) rfl c_1 ?_
    refine Wp.path (k := 2) [] (C := [inR (x2 + 1)]) (pc' := 4) (ls' := [some (.inr (.inr (4, i0))), some (.inl x1), some (.inl (x2 + 1)), some (.inl x3)]) (st' := []) (M' := M) rfl h.1 ?_
    replace h := h.2
    exact h _
  · replace h := h.2 c_1
    refine Wp.path (k := 1) [0] (C := [x3 ≤ 12]) (pc' := 18) (ls' := [some (.inr (.inr (4, i0))), some (.inl x1), some (.inl x2), some (.inl x3)]) (st' := []) (M' := M) rfl c_1 ?_
    refine Wp.path (k := 3) [] (C := []) (pc' := 21) (ls' := [some (.inr (.inr (4, i0))), some (.inl x1), some (.inl x2), some (.inl x3)]) (st' := [.inl x2, .inl x3, .inr (.inr (4, i0))]) (M' := M) rfl trivial ?_
    refine Wp.call h rfl rfl (by decide) ?_
    rintro _ M1 ⟨r, rfl, h⟩
    show Wp 2 413 24 [some (.inr (.inr (4, i0))), some (.inl x1), some (.inl x2), some (.inl x3)] [.inl r] M1 (rI Q)
    have g2_0 := h.1
    replace h := h.2
    have k_2 : ∀ x1_1 : Int, x1_1 = (if r = 0 then x1 else (x1 + 1)) → Wp 2 413 30 [some (.inr (.inr (4, i0))), some (.inl x1_1), some (.inl x2), some (.inl x3)] [] M1 (rI Q) := by
      intro x1_1 e_x1_1
      replace h := h x1_1 e_x1_1
      refine Wp.path (k := 2) [] (C := [inR (x3 + 1)]) (pc' := 12) (ls' := [some (.inr (.inr (4, i0))), some (.inl x1_1), some (.inl x2), some (.inl (x3 + 1))]) (st' := []) (M' := M1) rfl h.1 ?_
      replace h := h.2
      exact h
    clear h
    rcases Decidable.em (r = 0) with c_3 | c_3
    · refine Wp.path (k := 1) [1] (C := [r = 0]) (pc' := 30) (ls' := [some (.inr (.inr (4, i0))), some (.inl x1), some (.inl x2), some (.inl x3)]) (st' := []) (M' := M1) rfl c_3 ?_
      exact k_2 _ (by rw [if_pos c_3])
    · refine Wp.path (k := 1) [0] (C := [r ≠ 0]) (pc' := 27) (ls' := [some (.inr (.inr (4, i0))), some (.inl x1), some (.inl x2), some (.inl x3)]) (st' := []) (M' := M1) rfl c_3 ?_
      refine Wp.path (k := 1) [] (C := [inR (x1 + 1)]) (pc' := 30) (ls' := [some (.inr (.inr (4, i0))), some (.inl (x1 + 1)), some (.inl x2), some (.inl x3)]) (st' := []) (M' := M1) rfl (g2_0 c_3) ?_
      exact k_2 _ (by rw [if_neg c_3])
/-- X4_heightAt -/
def E_415 (i0 : Nat) (x1 : Int) (x2 : Int) (M : Mm) (Q : Int → Mm → Prop) : Prop := Ev 1 415 [.inr (.inr (4, i0)), .inl x1, .inl x2] M (rI Q)
theorem m_415 {i0 : Nat} {x1 : Int} {x2 : Int} {M : Mm} {Q Q1 : Int → Mm → Prop} (h : E_415 i0 x1 x2 M Q) (k : (∀ r M1, Q r M1 → Q1 r M1)) : E_415 i0 x1 x2 M Q1 := Ev.mono h (fun v M1 ⟨r, h1, h2⟩ => ⟨r, h1, k _ _ h2⟩)
def L_415_6 (i0 : Nat) (x1 : Int) (x2 : Int) (x3 : Int) (x4 : Int) (M : Mm) (Q : Int → Mm → Prop) : Prop := ∀ o5 : Option Vv, Wp 1 415 6 [some (.inr (.inr (4, i0))), some (.inl x1), some (.inl x2), some (.inl x3), some (.inl x4), o5] [] M (rI Q)
def L_415_16 (i0 : Nat) (x1 : Int) (x2 : Int) (x3 : Int) (x4 : Int) (x5 : Int) (M : Mm) (Q : Int → Mm → Prop) : Prop := Wp 1 415 16 [some (.inr (.inr (4, i0))), some (.inl x1), some (.inl x2), some (.inl x3), some (.inl x4), some (.inl x5)] [] M (rI Q)
theorem s_415_0 {i0 : Nat} {x1 : Int} {x2 : Int} {M : Mm} {Q : Int → Mm → Prop} (h : (L_415_6 i0 x1 x2 96 (-1) M Q)) : E_415 i0 x1 x2 M Q := by
  show Wp 1 415 0 [some (.inr (.inr (4, i0))), some (.inl x1), some (.inl x2), none, none, none] [] M (rI Q)
  refine Wp.path (k := 4) [] (C := []) (pc' := 6) (ls' := [some (.inr (.inr (4, i0))), some (.inl x1), some (.inl x2), some (.inl 96), some (.inl (-1)), none]) (st' := []) (M' := M) rfl trivial ?_
  exact h _
theorem s_415_6 {i0 : Nat} {x1 : Int} {x2 : Int} {x3 : Int} {x4 : Int} {M : Mm} {Q : Int → Mm → Prop} (h : ((12 < x4 → (Q x3 M)) ∧ (x4 ≤ 12 → (L_415_16 i0 x1 x2 x3 x4 (-1) M Q)))) : L_415_6 i0 x1 x2 x3 x4 M Q := by
  intro o5
  show Wp 1 415 6 [some (.inr (.inr (4, i0))), some (.inl x1), some (.inl x2), some (.inl x3), some (.inl x4), o5] [] M (rI Q)
  refine Wp.path (k := 2) [] (C := []) (pc' := 10) (ls' := [some (.inr (.inr (4, i0))), some (.inl x1), some (.inl x2), some (.inl x3), some (.inl x4), o5]) (st' := [.inl 12, .inl x4]) (M' := M) rfl trivial ?_
  rcases Int.lt_or_le (12) (x4) with c_1 | c_1
  · replace h := h.1 c_1
    refine Wp.path (k := 1) [1] (C := [12 < x4]) (pc' := 72) (ls' := [some (.inr (.inr (4, i0))), some (.inl x1), some (.inl x2), some (.inl x3), some (.inl x4), o5]) (st' := []) (M' := M) rfl c_1 ?_
    refine Wp.path (k := 1) [] (C := []) (pc' := 73) (ls' := [some (.inr (.inr (4, i0))), some (.inl x1), some (.inl x2), some (.inl x3), some (.inl x4), o5]) (st' := [.inl x3]) (M' := M) rfl trivial ?_
    exact Wp.ret rfl ⟨_, rfl, h⟩
  · replace h := h.2 c_1
    refine Wp.path (k := 1) [0] (C := [x4 ≤ 12]) (pc' := 13) (ls' := [some (.inr (.inr (4, i0))), some (.inl x1), some (.inl x2), some (.inl x3), some (.inl x4), o5]) (st' := []) (M' := M) rfl c_1 ?_
    refine Wp.path (k := 2) [] (C := []) (pc' := 16) (ls' := [some (.inr (.inr (4, i0))), some (.inl x1), some (.inl x2), some (.inl x3), some (.inl x4), some (.inl (-1))]) (st' := []) (M' := M) rfl trivial ?_
    exact h
theorem s_415_16 {i0 : Nat} {x1 : Int} {x2 : Int} {x3 : Int} {x4 : Int} {x5 : Int} {M : Mm} {Q : Int → Mm → Prop} (h : ((12 < x5 → (((-2147483648 ≤ x4 + 1 ∧ x4 + 1 ≤ 2147483647)) ∧ (L_415_6 i0 x1 x2 x3 (x4 + 1) M Q))) ∧ (x5 ≤ 12 → ((hasV (M.1 500 i0) x5 x4 ≠ 0 → (((-2147483648 ≤ x5 + 1 ∧ x5 + 1 ≤ 2147483647)) ∧ (L_415_16 i0 x1 x2 x3 x4 (x5 + 1) M Q))) ∧ (hasV (M.1 500 i0) x5 x4 = 0 → (((-2147483648 ≤ 8 * x5 ∧ 8 * x5 ≤ 2147483647)) ∧ ((0 ≤ x1 ∧ x1 ≤ 96 ∧ -8 ≤ (8 * x5) ∧ (8 * x5) ≤ 96) ∧ (((-2147483648 ≤ 8 * x4 ∧ 8 * x4 ≤ 2147483647)) ∧ ((0 ≤ x2 ∧ x2 ≤ 96 ∧ -8 ≤ (8 * x4) ∧ (8 * x4) ≤ 96) ∧ (∀ x3_1 : Int, x3_1 = (if (if gapV x1 (8 * x5) < gapV x2 (8 * x4) then gapV x2 (8 * x4) else gapV x1 (8 * x5)) < x3 then (if gapV x1 (8 * x5) < gapV x2 (8 * x4) then gapV x2 (8 * x4) else gapV x1 (8 * x5)) else x3) → (((-2147483648 ≤ x5 + 1 ∧ x5 + 1 ≤ 2147483647)) ∧ (L_415_16 i0 x1 x2 x3_1 x4 (x5 + 1) M Q)))))))))))) : L_415_16 i0 x1 x2 x3 x4 x5 M Q := by
  show Wp 1 415 16 [some (.inr (.inr (4, i0))), some (.inl x1), some (.inl x2), some (.inl x3), some (.inl x4), some (.inl x5)] [] M (rI Q)
  refine Wp.path (k := 2) [] (C := []) (pc' := 20) (ls' := [some (.inr (.inr (4, i0))), some (.inl x1), some (.inl x2), some (.inl x3), some (.inl x4), some (.inl x5)]) (st' := [.inl 12, .inl x5]) (M' := M) rfl trivial ?_
  rcases Int.lt_or_le (12) (x5) with c_1 | c_1
  · replace h := h.1 c_1
    refine Wp.path (k := 1) [1] (C := [12 < x5]) (pc' := 66) (ls' := [some (.inr (.inr (4, i0))), some (.inl x1), some (.inl x2), some (.inl x3), some (.inl x4), some (.inl x5)]) (st' := []) (M' := M) rfl c_1 ?_
    refine Wp.path (k := 2) [] (C := [inR (x4 + 1)]) (pc' := 6) (ls' := [some (.inr (.inr (4, i0))), some (.inl x1), some (.inl x2), some (.inl x3), some (.inl (x4 + 1)), some (.inl x5)]) (st' := []) (M' := M) rfl h.1 ?_
    replace h := h.2
    exact h _
  · replace h := h.2 c_1
    refine Wp.path (k := 1) [0] (C := [x5 ≤ 12]) (pc' := 23) (ls' := [some (.inr (.inr (4, i0))), some (.inl x1), some (.inl x2), some (.inl x3), some (.inl x4), some (.inl x5)]) (st' := []) (M' := M) rfl c_1 ?_
    refine Wp.path (k := 3) [] (C := []) (pc' := 28) (ls' := [some (.inr (.inr (4, i0))), some (.inl x1), some (.inl x2), some (.inl x3), some (.inl x4), some (.inl x5)]) (st' := [.inl x4, .inl x5, .inr (.inr (4, i0))]) (M' := M) rfl trivial ?_
    refine Wp.call (e401) rfl rfl (by decide) ?_
    rintro v_ M_ ⟨eM_, ev_⟩
    rw [eM_, ev_]
    clear eM_ ev_ v_ M_
    show Wp 1 415 31 [some (.inr (.inr (4, i0))), some (.inl x1), some (.inl x2), some (.inl x3), some (.inl x4), some (.inl x5)] [.inl (hasV (M.1 500 i0) x5 x4)] M (rI Q)
    rcases Decidable.em (hasV (M.1 500 i0) x5 x4 = 0) with c_2 | c_2
    · replace h := h.2 c_2
      refine Wp.path (k := 1) [0] (C := [hasV (M.1 500 i0) x5 x4 = 0]) (pc' := 34) (ls' := [some (.inr (.inr (4, i0))), some (.inl x1), some (.inl x2), some (.inl x3), some (.inl x4), some (.inl x5)]) (st' := []) (M' := M) rfl c_2 ?_
      refine Wp.path (k := 5) [] (C := [inR (8 * x5)]) (pc' := 41) (ls' := [some (.inr (.inr (4, i0))), some (.inl x1), some (.inl x2), some (.inl x3), some (.inl x4), some (.inl x5)]) (st' := [.inl (8 * x5), .inl x1, .inl x3]) (M' := M) rfl h.1 ?_
      replace h := h.2
      refine Wp.call (e416 h.1.1 h.1.2.1 h.1.2.2.1 h.1.2.2.2) rfl rfl (by decide) ?_
      replace h := h.2
      rintro v_ M_ ⟨eM_, ev_⟩
      rw [eM_, ev_]
      clear eM_ ev_ v_ M_
      show Wp 1 415 44 [some (.inr (.inr (4, i0))), some (.inl x1), some (.inl x2), some (.inl x3), some (.inl x4), some (.inl x5)] [.inl (gapV x1 (8 * x5)), .inl x3] M (rI Q)
      refine Wp.path (k := 4) [] (C := [inR (8 * x4)]) (pc' := 50) (ls' := [some (.inr (.inr (4, i0))), some (.inl x1), some (.inl x2), some (.inl x3), some (.inl x4), some (.inl x5)]) (st' := [.inl (8 * x4), .inl x2, .inl (gapV x1 (8 * x5)), .inl x3]) (M' := M) rfl h.1 ?_
      replace h := h.2
      refine Wp.call (e416 h.1.1 h.1.2.1 h.1.2.2.1 h.1.2.2.2) rfl rfl (by decide) ?_
      replace h := h.2
      rintro v_ M_ ⟨eM_, ev_⟩
      rw [eM_, ev_]
      clear eM_ ev_ v_ M_
      show Wp 1 415 53 [some (.inr (.inr (4, i0))), some (.inl x1), some (.inl x2), some (.inl x3), some (.inl x4), some (.inl x5)] [.inl (gapV x2 (8 * x4)), .inl (gapV x1 (8 * x5)), .inl x3] M (rI Q)
      refine Wp.path (k := 3) [] (C := []) (pc' := 60) (ls' := [some (.inr (.inr (4, i0))), some (.inl x1), some (.inl x2), some (.inl (if (if gapV x1 (8 * x5) < gapV x2 (8 * x4) then gapV x2 (8 * x4) else gapV x1 (8 * x5)) < x3 then (if gapV x1 (8 * x5) < gapV x2 (8 * x4) then gapV x2 (8 * x4) else gapV x1 (8 * x5)) else x3)), some (.inl x4), some (.inl x5)]) (st' := []) (M' := M) rfl trivial ?_
      refine Bd (P := fun x3_1 : Int => Wp 1 415 60 [some (.inr (.inr (4, i0))), some (.inl x1), some (.inl x2), some (.inl x3_1), some (.inl x4), some (.inl x5)] [] M (rI Q)) ?_
      intro x3_1 e_x3_1
      replace h := h x3_1 e_x3_1
      refine Wp.path (k := 2) [] (C := [inR (x5 + 1)]) (pc' := 16) (ls' := [some (.inr (.inr (4, i0))), some (.inl x1), some (.inl x2), some (.inl x3_1), some (.inl x4), some (.inl (x5 + 1))]) (st' := []) (M' := M) rfl h.1 ?_
      replace h := h.2
      exact h
    · replace h := h.1 c_2
      refine Wp.path (k := 1) [1] (C := [hasV (M.1 500 i0) x5 x4 ≠ 0]) (pc' := 60) (ls' := [some (.inr (.inr (4, i0))), some (.inl x1), some (.inl x2), some (.inl x3), some (.inl x4), some (.inl x5)]) (st' := []) (M' := M) rfl c_2 ?_
      refine Wp.path (k := 2) [] (C := [inR (x5 + 1)]) (pc' := 16) (ls' := [some (.inr (.inr (4, i0))), some (.inl x1), some (.inl x2), some (.inl x3), some (.inl x4), some (.inl (x5 + 1))]) (st' := []) (M' := M) rfl h.1 ?_
      replace h := h.2
      exact h
/-- X5_spoil -/
def E_501 (M : Mm) (Q : Mm → Prop) : Prop := Ev 0 501 [.inr (.inr (5, 0))] M (rV Q)
theorem m_501 {M : Mm} {Q Q1 : Mm → Prop} (h : E_501 M Q) (k : (∀ M1, Q M1 → Q1 M1)) : E_501 M Q1 := Ev.mono h (fun v M1 h => ⟨h.1, k _ h.2⟩)
theorem s_501_0 {M : Mm} {Q : Mm → Prop} (h : (∀ M1 : Mm, M1 = setI M 5 0 10 0 → (Q M1))) : E_501 M Q := by
  show Wp 0 501 0 [some (.inr (.inr (5, 0)))] [] M (rV Q)
  refine Wp.path (k := 3) [] (C := [(0 : Int) = 0 ∨ (0 : Int) = 1]) (pc' := 5) (ls' := [some (.inr (.inr (5, 0)))]) (st' := []) (M' := setI M 5 0 10 0) rfl (Or.inl rfl) ?_
  refine Bd (P := fun M1 : Mm => Wp 0 501 5 [some (.inr (.inr (5, 0)))] [] M1 (rV Q)) ?_
  intro M1 e_M1
  replace h := h M1 e_M1
  exact Wp.ret rfl ⟨rfl, h⟩
/-- X5_loadLayer -/
def E_508 (i1 : Nat) (M : Mm) (Q : Mm → Prop) : Prop := Ev 1 508 [.inr (.inr (5, 0)), .inr (.inr (4, i1))] M (rV Q)
theorem m_508 {i1 : Nat} {M : Mm} {Q Q1 : Mm → Prop} (h : E_508 i1 M Q) (k : (∀ M1, Q M1 → Q1 M1)) : E_508 i1 M Q1 := Ev.mono h (fun v M1 h => ⟨h.1, k _ h.2⟩)
def L_508_2 (i1 : Nat) (x2 : Int) (M : Mm) (Q : Mm → Prop) : Prop := ∀ o3 : Option Vv, Wp 1 508 2 [some (.inr (.inr (5, 0))), some (.inr (.inr (4, i1))), some (.inl x2), o3] [] M (rV Q)
def L_508_20 (i1 : Nat) (x2 : Int) (x3 : Int) (M : Mm) (Q : Mm → Prop) : Prop := Wp 1 508 20 [some (.inr (.inr (5, 0))), some (.inr (.inr (4, i1))), some (.inl x2), some (.inl x3)] [] M (rV Q)
theorem s_508_0 {i1 : Nat} {M : Mm} {Q : Mm → Prop} (h : (L_508_2 i1 0 M Q)) : E_508 i1 M Q := by
  show Wp 1 508 0 [some (.inr (.inr (5, 0))), some (.inr (.inr (4, i1))), none, none] [] M (rV Q)
  refine Wp.path (k := 2) [] (C := []) (pc' := 2) (ls' := [some (.inr (.inr (5, 0))), some (.inr (.inr (4, i1))), some (.inl 0), none]) (st' := []) (M' := M) rfl trivial ?_
  exact h _
theorem s_508_2 {i1 : Nat} {x2 : Int} {M : Mm} {Q : Mm → Prop} (h : ((48 ≤ x2 → (Q M)) ∧ (x2 < 48 → (((0 ≤ x2 ∧ x2 < 48)) ∧ (∀ M1 : Mm, M1 = setJ M 605 0 x2.toNat (Int64.ofNat 0) → (L_508_20 i1 x2 0 M1 Q)))))) : L_508_2 i1 x2 M Q := by
  intro o3
  show Wp 1 508 2 [some (.inr (.inr (5, 0))), some (.inr (.inr (4, i1))), some (.inl x2), o3] [] M (rV Q)
  refine Wp.path (k := 4) [] (C := []) (pc' := 8) (ls' := [some (.inr (.inr (5, 0))), some (.inr (.inr (4, i1))), some (.inl x2), o3]) (st' := [.inl 48, .inl x2]) (M' := M) rfl trivial ?_
  rcases Int.lt_or_le (x2) (48) with c_1 | c_1
  · replace h := h.2 c_1
    refine Wp.path (k := 1) [0] (C := [x2 < 48]) (pc' := 11) (ls' := [some (.inr (.inr (5, 0))), some (.inr (.inr (4, i1))), some (.inl x2), o3]) (st' := []) (M' := M) rfl c_1 ?_
    refine Wp.path (k := 5) [] (C := [0 ≤ x2 ∧ x2 < 48]) (pc' := 18) (ls' := [some (.inr (.inr (5, 0))), some (.inr (.inr (4, i1))), some (.inl x2), o3]) (st' := []) (M' := setJ M 605 0 x2.toNat (Int64.ofNat 0)) rfl h.1 ?_
    replace h := h.2
    refine Bd (P := fun M1 : Mm => Wp 1 508 18 [some (.inr (.inr (5, 0))), some (.inr (.inr (4, i1))), some (.inl x2), o3] [] M1 (rV Q)) ?_
    intro M1 e_M1
    replace h := h M1 e_M1
    refine Wp.path (k := 2) [] (C := []) (pc' := 20) (ls' := [some (.inr (.inr (5, 0))), some (.inr (.inr (4, i1))), some (.inl x2), some (.inl 0)]) (st' := []) (M' := M1) rfl trivial ?_
    exact h
  · replace h := h.1 c_1
    refine Wp.path (k := 1) [1] (C := [48 ≤ x2]) (pc' := 65) (ls' := [some (.inr (.inr (5, 0))), some (.inr (.inr (4, i1))), some (.inl x2), o3]) (st' := []) (M' := M) rfl c_1 ?_
    exact Wp.ret rfl ⟨rfl, h⟩
theorem s_508_20 {i1 : Nat} {x2 : Int} {x3 : Int} {M : Mm} {Q : Mm → Prop} (h : ((12 ≤ x3 → (((-2147483648 ≤ x2 + 1 ∧ x2 + 1 ≤ 2147483647)) ∧ (L_508_2 i1 (x2 + 1) M Q))) ∧ (x3 < 12 → (((-2147483648 ≤ x2 ∧ x2 ≤ 2147483647)) ∧ (∀ d : Int, d = Int.tdiv x2 4 → ((hasV (M.1 500 i1) x3 d = 0 → (((-2147483648 ≤ x3 + 1 ∧ x3 + 1 ≤ 2147483647)) ∧ (L_508_20 i1 x2 (x3 + 1) M Q))) ∧ (hasV (M.1 500 i1) x3 d ≠ 0 → (((0 ≤ x2 ∧ x2 < 48) ∧ (-2147483648 ≤ 4 * x3 ∧ 4 * x3 ≤ 2147483647)) ∧ (∀ M1 : Mm, M1 = setJ M 605 0 x2.toNat ((M.2 605 0 x2.toNat) ||| (lsh (Int64.ofInt 15) (4 * x3))) → (((-2147483648 ≤ x3 + 1 ∧ x3 + 1 ≤ 2147483647)) ∧ (L_508_20 i1 x2 (x3 + 1) M1 Q))))))))))) : L_508_20 i1 x2 x3 M Q := by
  show Wp 1 508 20 [some (.inr (.inr (5, 0))), some (.inr (.inr (4, i1))), some (.inl x2), some (.inl x3)] [] M (rV Q)
  refine Wp.path (k := 2) [] (C := []) (pc' := 23) (ls' := [some (.inr (.inr (5, 0))), some (.inr (.inr (4, i1))), some (.inl x2), some (.inl x3)]) (st' := [.inl 12, .inl x3]) (M' := M) rfl trivial ?_
  rcases Int.lt_or_le (x3) (12) with c_1 | c_1
  · replace h := h.2 c_1
    refine Wp.path (k := 1) [0] (C := [x3 < 12]) (pc' := 26) (ls' := [some (.inr (.inr (5, 0))), some (.inr (.inr (4, i1))), some (.inl x2), some (.inl x3)]) (st' := []) (M' := M) rfl c_1 ?_
    refine Wp.path (k := 5) [] (C := [inR x2 ∧ 0 < 4 ∧ inR 4]) (pc' := 31) (ls' := [some (.inr (.inr (5, 0))), some (.inr (.inr (4, i1))), some (.inl x2), some (.inl x3)]) (st' := [.inl (Int.tdiv x2 4), .inl x3, .inr (.inr (4, i1))]) (M' := M) rfl ⟨h.1, by decide, ⟨by decide, by decide⟩⟩ ?_
    replace h := h.2
    refine Bd (P := fun d : Int => Wp 1 508 31 [some (.inr (.inr (5, 0))), some (.inr (.inr (4, i1))), some (.inl x2), some (.inl x3)] [.inl d, .inl x3, .inr (.inr (4, i1))] M (rV Q)) ?_
    intro d e_d
    replace h := h d e_d
    refine Wp.call (e401) rfl rfl (by decide) ?_
    rintro v_ M_ ⟨eM_, ev_⟩
    rw [eM_, ev_]
    clear eM_ ev_ v_ M_
    show Wp 1 508 34 [some (.inr (.inr (5, 0))), some (.inr (.inr (4, i1))), some (.inl x2), some (.inl x3)] [.inl (hasV (M.1 500 i1) x3 d)] M (rV Q)
    rcases Decidable.em (hasV (M.1 500 i1) x3 d = 0) with c_2 | c_2
    · replace h := h.1 c_2
      refine Wp.path (k := 1) [1] (C := [hasV (M.1 500 i1) x3 d = 0]) (pc' := 53) (ls' := [some (.inr (.inr (5, 0))), some (.inr (.inr (4, i1))), some (.inl x2), some (.inl x3)]) (st' := []) (M' := M) rfl c_2 ?_
      refine Wp.path (k := 2) [] (C := [inR (x3 + 1)]) (pc' := 20) (ls' := [some (.inr (.inr (5, 0))), some (.inr (.inr (4, i1))), some (.inl x2), some (.inl (x3 + 1))]) (st' := []) (M' := M) rfl h.1 ?_
      replace h := h.2
      exact h
    · replace h := h.2 c_2
      refine Wp.path (k := 1) [0] (C := [hasV (M.1 500 i1) x3 d ≠ 0]) (pc' := 37) (ls' := [some (.inr (.inr (5, 0))), some (.inr (.inr (4, i1))), some (.inl x2), some (.inl x3)]) (st' := []) (M' := M) rfl c_2 ?_
      refine Wp.path (k := 12) [] (C := [0 ≤ x2 ∧ x2 < 48, inR (4 * x3), 0 ≤ x2 ∧ x2 < 48]) (pc' := 53) (ls' := [some (.inr (.inr (5, 0))), some (.inr (.inr (4, i1))), some (.inl x2), some (.inl x3)]) (st' := []) (M' := setJ M 605 0 x2.toNat ((M.2 605 0 x2.toNat) ||| (lsh (Int64.ofInt 15) (4 * x3)))) rfl ⟨h.1.1, h.1.2, h.1.1⟩ ?_
      replace h := h.2
      refine Bd (P := fun M1 : Mm => Wp 1 508 53 [some (.inr (.inr (5, 0))), some (.inr (.inr (4, i1))), some (.inl x2), some (.inl x3)] [] M1 (rV Q)) ?_
      intro M1 e_M1
      replace h := h M1 e_M1
      refine Wp.path (k := 2) [] (C := [inR (x3 + 1)]) (pc' := 20) (ls' := [some (.inr (.inr (5, 0))), some (.inr (.inr (4, i1))), some (.inl x2), some (.inl (x3 + 1))]) (st' := []) (M' := M1) rfl h.1 ?_
      replace h := h.2
      exact h
  · replace h := h.1 c_1
    refine Wp.path (k := 1) [1] (C := [12 ≤ x3]) (pc' := 59) (ls' := [some (.inr (.inr (5, 0))), some (.inr (.inr (4, i1))), some (.inl x2), some (.inl x3)]) (st' := []) (M' := M) rfl c_1 ?_
    refine Wp.path (k := 2) [] (C := [inR (x2 + 1)]) (pc' := 2) (ls' := [some (.inr (.inr (5, 0))), some (.inr (.inr (4, i1))), some (.inl (x2 + 1)), some (.inl x3)]) (st' := []) (M' := M) rfl h.1 ?_
    replace h := h.2
    exact h _
/-- X5_layerCells -/
def E_509 (M : Mm) (Q : Int → Mm → Prop) : Prop := Ev 1 509 [.inr (.inr (5, 0))] M (rI Q)
theorem m_509 {M : Mm} {Q Q1 : Int → Mm → Prop} (h : E_509 M Q) (k : (∀ r M1, Q r M1 → Q1 r M1)) : E_509 M Q1 := Ev.mono h (fun v M1 ⟨r, h1, h2⟩ => ⟨r, h1, k _ _ h2⟩)
def L_509_4 (x1 : Int) (x2 : Int) (M : Mm) (Q : Int → Mm → Prop) : Prop := Wp 1 509 4 [some (.inr (.inr (5, 0))), some (.inl x1), some (.inl x2)] [] M (rI Q)
theorem s_509_0 {M : Mm} {Q : Int → Mm → Prop} (h : (L_509_4 0 0 M Q)) : E_509 M Q := by
  show Wp 1 509 0 [some (.inr (.inr (5, 0))), none, none] [] M (rI Q)
  refine Wp.path (k := 4) [] (C := []) (pc' := 4) (ls' := [some (.inr (.inr (5, 0))), some (.inl 0), some (.inl 0)]) (st' := []) (M' := M) rfl trivial ?_
  exact h
theorem s_509_4 {x1 : Int} {x2 : Int} {M : Mm} {Q : Int → Mm → Prop} (h : ((48 ≤ x2 → (Q x1 M)) ∧ (x2 < 48 → (((0 ≤ x2 ∧ x2 < 48)) ∧ (((-2147483648 ≤ x1 + (cntB (bJ (M.2 605 0 x2.toNat)) 64 : Int) ∧ x1 + (cntB (bJ (M.2 605 0 x2.toNat)) 64 : Int) ≤ 2147483647)) ∧ (∀ x1_1 : Int, x1_1 = x1 + (cntB (bJ (M.2 605 0 x2.toNat)) 64 : Int) → (((-2147483648 ≤ x2 + 1 ∧ x2 + 1 ≤ 2147483647)) ∧ (L_509_4 x1_1 (x2 + 1) M Q)))))))) : L_509_4 x1 x2 M Q := by
  show Wp 1 509 4 [some (.inr (.inr (5, 0))), some (.inl x1), some (.inl x2)] [] M (rI Q)
  refine Wp.path (k := 4) [] (C := []) (pc' := 10) (ls' := [some (.inr (.inr (5, 0))), some (.inl x1), some (.inl x2)]) (st' := [.inl 48, .inl x2]) (M' := M) rfl trivial ?_
  rcases Int.lt_or_le (x2) (48) with c_1 | c_1
  · replace h := h.2 c_1
    refine Wp.path (k := 1) [0] (C := [x2 < 48]) (pc' := 13) (ls' := [some (.inr (.inr (5, 0))), some (.inl x1), some (.inl x2)]) (st' := []) (M' := M) rfl c_1 ?_
    refine Wp.path (k := 5) [] (C := [0 ≤ x2 ∧ x2 < 48]) (pc' := 20) (ls' := [some (.inr (.inr (5, 0))), some (.inl x1), some (.inl x2)]) (st' := [.inr (.inl (M.2 605 0 x2.toNat)), .inl x1]) (M' := M) rfl h.1 ?_
    replace h := h.2
    refine Wp.call (e1101) rfl rfl (by decide) ?_
    rintro v_ M_ ⟨eM_, ev_⟩
    rw [eM_, ev_]
    clear eM_ ev_ v_ M_
    show Wp 1 509 23 [some (.inr (.inr (5, 0))), some (.inl x1), some (.inl x2)] [.inl (cntB (bJ (M.2 605 0 x2.toNat)) 64 : Int), .inl x1] M (rI Q)
    refine Wp.path (k := 2) [] (C := [inR (x1 + (cntB (bJ (M.2 605 0 x2.toNat)) 64 : Int))]) (pc' := 25) (ls' := [some (.inr (.inr (5, 0))), some (.inl (x1 + (cntB (bJ (M.2 605 0 x2.toNat)) 64 : Int))), some (.inl x2)]) (st' := []) (M' := M) rfl h.1 ?_
    replace h := h.2
    refine Bd (P := fun x1_1 : Int => Wp 1 509 25 [some (.inr (.inr (5, 0))), some (.inl x1_1), some (.inl x2)] [] M (rI Q)) ?_
    intro x1_1 e_x1_1
    replace h := h x1_1 e_x1_1
    refine Wp.path (k := 2) [] (C := [inR (x2 + 1)]) (pc' := 4) (ls' := [some (.inr (.inr (5, 0))), some (.inl x1_1), some (.inl (x2 + 1))]) (st' := []) (M' := M) rfl h.1 ?_
    replace h := h.2
    exact h
  · replace h := h.1 c_1
    refine Wp.path (k := 1) [1] (C := [48 ≤ x2]) (pc' := 31) (ls' := [some (.inr (.inr (5, 0))), some (.inl x1), some (.inl x2)]) (st' := []) (M' := M) rfl c_1 ?_
    refine Wp.path (k := 1) [] (C := []) (pc' := 32) (ls' := [some (.inr (.inr (5, 0))), some (.inl x1), some (.inl x2)]) (st' := [.inl x1]) (M' := M) rfl trivial ?_
    exact Wp.ret rfl ⟨_, rfl, h⟩
/-- X5_noteSamples -/
def E_510 (x1 : Int) (M : Mm) (Q : Mm → Prop) : Prop := Ev 1 510 [.inr (.inr (5, 0)), .inl x1] M (rV Q)
theorem m_510 {x1 : Int} {M : Mm} {Q Q1 : Mm → Prop} (h : E_510 x1 M Q) (k : (∀ M1, Q M1 → Q1 M1)) : E_510 x1 M Q1 := Ev.mono h (fun v M1 h => ⟨h.1, k _ h.2⟩)
def L_510_2 (x1 : Int) (x2 : Int) (M : Mm) (Q : Mm → Prop) : Prop := ∀ o3 o4 : Option Vv, Wp 1 510 2 [some (.inr (.inr (5, 0))), some (.inl x1), some (.inl x2), o3, o4] [] M (rV Q)
theorem s_510_0 {x1 : Int} {M : Mm} {Q : Mm → Prop} (h : (L_510_2 x1 0 M Q)) : E_510 x1 M Q := by
  show Wp 1 510 0 [some (.inr (.inr (5, 0))), some (.inl x1), none, none, none] [] M (rV Q)
  refine Wp.path (k := 2) [] (C := []) (pc' := 2) (ls' := [some (.inr (.inr (5, 0))), some (.inl x1), some (.inl 0), none, none]) (st' := []) (M' := M) rfl trivial ?_
  exact h _ _
theorem s_510_2 {x1 : Int} {x2 : Int} {M : Mm} {Q : Mm → Prop} (h : ((144 ≤ x2 → (Q M)) ∧ (x2 < 144 → (((-2147483648 ≤ x2 ∧ x2 ≤ 2147483647)) ∧ (∀ d : Int, d = Int.tdiv x2 12 → (((-2147483648 ≤ 4 * d ∧ 4 * d ≤ 2147483647) ∧ (-2147483648 ≤ (4 * d) + 1 ∧ (4 * d) + 1 ≤ 2147483647)) ∧ (∀ x3 : Int64, x3 = atJ 48 (M.2 605 0) ((4 * d) + 1) → (((-2147483648 ≤ x2 ∧ x2 ≤ 2147483647)) ∧ (∀ d_1 : Int, d_1 = Int.tmod x2 12 → (((-2147483648 ≤ 4 * d_1 ∧ 4 * d_1 ≤ 2147483647)) ∧ (((lsr x3 (4 * d_1)) &&& (Int64.ofNat 1) = Int64.ofNat 0 → (((-2147483648 ≤ x2 + 1 ∧ x2 + 1 ≤ 2147483647)) ∧ (L_510_2 x1 (x2 + 1) M Q))) ∧ ((lsr x3 (4 * d_1)) &&& (Int64.ofNat 1) ≠ Int64.ofNat 0 → (((0 ≤ x2 ∧ x2 < 144)) ∧ (∀ M1 : Mm, M1 = setI M 608 0 x2.toNat x1 → (((-2147483648 ≤ x2 + 1 ∧ x2 + 1 ≤ 2147483647)) ∧ (L_510_2 x1 (x2 + 1) M1 Q)))))))))))))))) : L_510_2 x1 x2 M Q := by
  intro o3 o4
  show Wp 1 510 2 [some (.inr (.inr (5, 0))), some (.inl x1), some (.inl x2), o3, o4] [] M (rV Q)
  refine Wp.path (k := 4) [] (C := []) (pc' := 8) (ls' := [some (.inr (.inr (5, 0))), some (.inl x1), some (.inl x2), o3, o4]) (st' := [.inl 144, .inl x2]) (M' := M) rfl trivial ?_
  rcases Int.lt_or_le (x2) (144) with c_1 | c_1
  · replace h := h.2 c_1
    refine Wp.path (k := 1) [0] (C := [x2 < 144]) (pc' := 11) (ls' := [some (.inr (.inr (5, 0))), some (.inl x1), some (.inl x2), o3, o4]) (st' := []) (M' := M) rfl c_1 ?_
    refine Wp.path (k := 6) [] (C := [inR x2 ∧ 0 < 12 ∧ inR 12]) (pc' := 20) (ls' := [some (.inr (.inr (5, 0))), some (.inl x1), some (.inl x2), o3, o4]) (st' := [.inl (Int.tdiv x2 12), .inl 4, .inr (.inr (605, 0))]) (M' := M) rfl ⟨h.1, by decide, ⟨by decide, by decide⟩⟩ ?_
    replace h := h.2
    refine Bd (P := fun d : Int => Wp 1 510 20 [some (.inr (.inr (5, 0))), some (.inl x1), some (.inl x2), o3, o4] [.inl d, .inl 4, .inr (.inr (605, 0))] M (rV Q)) ?_
    intro d e_d
    replace h := h d e_d
    refine Wp.path (k := 3) [] (C := [inR (4 * d), inR ((4 * d) + 1)]) (pc' := 23) (ls' := [some (.inr (.inr (5, 0))), some (.inl x1), some (.inl x2), o3, o4]) (st' := [.inl ((4 * d) + 1), .inr (.inr (605, 0))]) (M' := M) rfl ⟨h.1.1, h.1.2⟩ ?_
    replace h := h.2
    refine Wp.call (rat_605) rfl rfl (by decide) ?_
    rintro v_ M_ ⟨eM_, ev_⟩
    rw [eM_, ev_]
    clear eM_ ev_ v_ M_
    show Wp 1 510 26 [some (.inr (.inr (5, 0))), some (.inl x1), some (.inl x2), o3, o4] [.inr (.inl (atJ 48 (M.2 605 0) ((4 * d) + 1)))] M (rV Q)
    refine Wp.path (k := 1) [] (C := []) (pc' := 27) (ls' := [some (.inr (.inr (5, 0))), some (.inl x1), some (.inl x2), some (.inr (.inl (atJ 48 (M.2 605 0) ((4 * d) + 1)))), none]) (st' := []) (M' := M) rfl trivial ?_
    refine Bd (P := fun x3 : Int64 => Wp 1 510 27 [some (.inr (.inr (5, 0))), some (.inl x1), some (.inl x2), some (.inr (.inl x3)), none] [] M (rV Q)) ?_
    intro x3 e_x3
    replace h := h x3 e_x3
    refine Wp.path (k := 5) [] (C := [inR x2 ∧ 0 < 12 ∧ inR 12]) (pc' := 33) (ls' := [some (.inr (.inr (5, 0))), some (.inl x1), some (.inl x2), some (.inr (.inl x3)), none]) (st' := [.inl (Int.tmod x2 12), .inl 4, .inr (.inl x3)]) (M' := M) rfl ⟨h.1, by decide, ⟨by decide, by decide⟩⟩ ?_
    replace h := h.2
    refine Bd (P := fun d_1 : Int => Wp 1 510 33 [some (.inr (.inr (5, 0))), some (.inl x1), some (.inl x2), some (.inr (.inl x3)), none] [.inl d_1, .inl 4, .inr (.inl x3)] M (rV Q)) ?_
    intro d_1 e_d_1
    replace h := h d_1 e_d_1
    refine Wp.path (k := 5) [] (C := [inR (4 * d_1)]) (pc' := 38) (ls' := [some (.inr (.inr (5, 0))), some (.inl x1), some (.inl x2), some (.inr (.inl x3)), none]) (st' := [.inr (.inl (Int64.ofNat 0)), .inr (.inl ((lsr x3 (4 * d_1)) &&& (Int64.ofNat 1)))]) (M' := M) rfl h.1 ?_
    replace h := h.2
    rcases Decidable.em ((lsr x3 (4 * d_1)) &&& (Int64.ofNat 1) = Int64.ofNat 0) with c_2 | c_2
    · replace h := h.1 c_2
      refine Wp.path (k := 2) [1] (C := [lcm ((lsr x3 (4 * d_1)) &&& (Int64.ofNat 1)) (Int64.ofNat 0) = 0]) (pc' := 49) (ls' := [some (.inr (.inr (5, 0))), some (.inl x1), some (.inl x2), some (.inr (.inl x3)), none]) (st' := []) (M' := M) rfl (lcm_e c_2) ?_
      refine Wp.path (k := 2) [] (C := [inR (x2 + 1)]) (pc' := 2) (ls' := [some (.inr (.inr (5, 0))), some (.inl x1), some (.inl (x2 + 1)), some (.inr (.inl x3)), none]) (st' := []) (M' := M) rfl h.1 ?_
      replace h := h.2
      exact h _ _
    · replace h := h.2 c_2
      refine Wp.path (k := 2) [0] (C := [lcm ((lsr x3 (4 * d_1)) &&& (Int64.ofNat 1)) (Int64.ofNat 0) ≠ 0]) (pc' := 42) (ls' := [some (.inr (.inr (5, 0))), some (.inl x1), some (.inl x2), some (.inr (.inl x3)), none]) (st' := []) (M' := M) rfl (lcm_n c_2) ?_
      refine Wp.path (k := 5) [] (C := [0 ≤ x2 ∧ x2 < 144]) (pc' := 49) (ls' := [some (.inr (.inr (5, 0))), some (.inl x1), some (.inl x2), some (.inr (.inl x3)), none]) (st' := []) (M' := setI M 608 0 x2.toNat x1) rfl h.1 ?_
      replace h := h.2
      refine Bd (P := fun M1 : Mm => Wp 1 510 49 [some (.inr (.inr (5, 0))), some (.inl x1), some (.inl x2), some (.inr (.inl x3)), none] [] M1 (rV Q)) ?_
      intro M1 e_M1
      replace h := h M1 e_M1
      refine Wp.path (k := 2) [] (C := [inR (x2 + 1)]) (pc' := 2) (ls' := [some (.inr (.inr (5, 0))), some (.inl x1), some (.inl (x2 + 1)), some (.inr (.inl x3)), none]) (st' := []) (M' := M1) rfl h.1 ?_
      replace h := h.2
      exact h _ _
  · replace h := h.1 c_1
    refine Wp.path (k := 1) [1] (C := [144 ≤ x2]) (pc' := 55) (ls' := [some (.inr (.inr (5, 0))), some (.inl x1), some (.inl x2), o3, o4]) (st' := []) (M' := M) rfl c_1 ?_
    exact Wp.ret rfl ⟨rfl, h⟩
/-- X5_copyLayer -/
def E_511 (i1 : Nat) (M : Mm) (Q : Mm → Prop) : Prop := Ev 1 511 [.inr (.inr (5, 0)), .inr (.inr (3, i1))] M (rV Q)
theorem m_511 {i1 : Nat} {M : Mm} {Q Q1 : Mm → Prop} (h : E_511 i1 M Q) (k : (∀ M1, Q M1 → Q1 M1)) : E_511 i1 M Q1 := Ev.mono h (fun v M1 h => ⟨h.1, k _ h.2⟩)
def L_511_2 (i1 : Nat) (x2 : Int) (M : Mm) (Q : Mm → Prop) : Prop := Wp 1 511 2 [some (.inr (.inr (5, 0))), some (.inr (.inr (3, i1))), some (.inl x2)] [] M (rV Q)
theorem s_511_0 {i1 : Nat} {M : Mm} {Q : Mm → Prop} (h : (L_511_2 i1 0 M Q)) : E_511 i1 M Q := by
  show Wp 1 511 0 [some (.inr (.inr (5, 0))), some (.inr (.inr (3, i1))), none] [] M (rV Q)
  refine Wp.path (k := 2) [] (C := []) (pc' := 2) (ls' := [some (.inr (.inr (5, 0))), some (.inr (.inr (3, i1))), some (.inl 0)]) (st' := []) (M' := M) rfl trivial ?_
  exact h
theorem s_511_2 {i1 : Nat} {x2 : Int} {M : Mm} {Q : Mm → Prop} (h : ((48 ≤ x2 → (Q M)) ∧ (x2 < 48 → (((0 ≤ x2 ∧ x2 < 48)) ∧ (∀ M1 : Mm, M1 = setL M 401 i1 (putJ 48 (M.2 401 i1) x2 (M.2 605 0 x2.toNat)) → (((-2147483648 ≤ x2 + 1 ∧ x2 + 1 ≤ 2147483647)) ∧ (L_511_2 i1 (x2 + 1) M1 Q))))))) : L_511_2 i1 x2 M Q := by
  show Wp 1 511 2 [some (.inr (.inr (5, 0))), some (.inr (.inr (3, i1))), some (.inl x2)] [] M (rV Q)
  refine Wp.path (k := 4) [] (C := []) (pc' := 8) (ls' := [some (.inr (.inr (5, 0))), some (.inr (.inr (3, i1))), some (.inl x2)]) (st' := [.inl 48, .inl x2]) (M' := M) rfl trivial ?_
  rcases Int.lt_or_le (x2) (48) with c_1 | c_1
  · replace h := h.2 c_1
    refine Wp.path (k := 1) [0] (C := [x2 < 48]) (pc' := 11) (ls' := [some (.inr (.inr (5, 0))), some (.inr (.inr (3, i1))), some (.inl x2)]) (st' := []) (M' := M) rfl c_1 ?_
    refine Wp.path (k := 6) [] (C := [0 ≤ x2 ∧ x2 < 48]) (pc' := 19) (ls' := [some (.inr (.inr (5, 0))), some (.inr (.inr (3, i1))), some (.inl x2)]) (st' := [.inr (.inl (M.2 605 0 x2.toNat)), .inl x2, .inr (.inr (3, i1))]) (M' := M) rfl h.1 ?_
    replace h := h.2
    refine Wp.call (e303) rfl rfl (by decide) ?_
    rintro v_ M_ ⟨eM_, ev_⟩
    rw [eM_, ev_]
    clear eM_ ev_ v_ M_
    refine Bd (e := setL M 401 i1 (putJ 48 (M.2 401 i1) x2 (M.2 605 0 x2.toNat))) (P := fun M1 : Mm => Wp 1 511 22 [some (.inr (.inr (5, 0))), some (.inr (.inr (3, i1))), some (.inl x2)] [] M1 (rV Q)) ?_
    intro M1 e_M1
    replace h := h M1 e_M1
    refine Wp.path (k := 2) [] (C := [inR (x2 + 1)]) (pc' := 2) (ls' := [some (.inr (.inr (5, 0))), some (.inr (.inr (3, i1))), some (.inl (x2 + 1))]) (st' := []) (M' := M1) rfl h.1 ?_
    replace h := h.2
    exact h
  · replace h := h.1 c_1
    refine Wp.path (k := 1) [1] (C := [48 ≤ x2]) (pc' := 28) (ls' := [some (.inr (.inr (5, 0))), some (.inr (.inr (3, i1))), some (.inl x2)]) (st' := []) (M' := M) rfl c_1 ?_
    exact Wp.ret rfl ⟨rfl, h⟩
/-- X5_shrinkLayer -/
def E_512 (M : Mm) (Q : Mm → Prop) : Prop := Ev 1 512 [.inr (.inr (5, 0))] M (rV Q)
theorem m_512 {M : Mm} {Q Q1 : Mm → Prop} (h : E_512 M Q) (k : (∀ M1, Q M1 → Q1 M1)) : E_512 M Q1 := Ev.mono h (fun v M1 h => ⟨h.1, k _ h.2⟩)
def L_512_2 (x1 : Int) (M : Mm) (Q : Mm → Prop) : Prop := Wp 1 512 2 [some (.inr (.inr (5, 0))), some (.inl x1)] [] M (rV Q)
def L_512_58 (x1 : Int) (M : Mm) (Q : Mm → Prop) : Prop := Wp 1 512 58 [some (.inr (.inr (5, 0))), some (.inl x1)] [] M (rV Q)
theorem s_512_0 {M : Mm} {Q : Mm → Prop} (h : (L_512_2 0 M Q)) : E_512 M Q := by
  show Wp 1 512 0 [some (.inr (.inr (5, 0))), none] [] M (rV Q)
  refine Wp.path (k := 2) [] (C := []) (pc' := 2) (ls' := [some (.inr (.inr (5, 0))), some (.inl 0)]) (st' := []) (M' := M) rfl trivial ?_
  exact h
theorem s_512_2 {x1 : Int} {M : Mm} {Q : Mm → Prop} (h : ((48 ≤ x1 → (L_512_58 0 M Q)) ∧ (x1 < 48 → ((48 ≤ x1 → (L_512_58 0 M Q)) ∧ (x1 < 48 → (((0 ≤ x1 ∧ x1 < 48)) ∧ (∀ M1 : Mm, M1 = setJ M 606 0 x1.toNat (((M.2 605 0 x1.toNat) &&& (lsh (M.2 605 0 x1.toNat) 1)) &&& (lus (M.2 605 0 x1.toNat) 1)) → (((-2147483648 ≤ x1 + 1 ∧ x1 + 1 ≤ 2147483647)) ∧ (L_512_2 (x1 + 1) M1 Q))))))))) : L_512_2 x1 M Q := by
  show Wp 1 512 2 [some (.inr (.inr (5, 0))), some (.inl x1)] [] M (rV Q)
  refine Wp.path (k := 4) [] (C := []) (pc' := 8) (ls' := [some (.inr (.inr (5, 0))), some (.inl x1)]) (st' := [.inl 48, .inl x1]) (M' := M) rfl trivial ?_
  rcases Int.lt_or_le (x1) (48) with c_1 | c_1
  · replace h := h.2 c_1
    refine Wp.path (k := 1) [0] (C := [x1 < 48]) (pc' := 11) (ls' := [some (.inr (.inr (5, 0))), some (.inl x1)]) (st' := []) (M' := M) rfl c_1 ?_
    refine Wp.path (k := 4) [] (C := []) (pc' := 17) (ls' := [some (.inr (.inr (5, 0))), some (.inl x1)]) (st' := [.inl 48, .inl x1]) (M' := M) rfl trivial ?_
    rcases Int.lt_or_le (x1) (48) with c_2 | c_2
    · replace h := h.2 c_2
      refine Wp.path (k := 1) [0] (C := [x1 < 48]) (pc' := 20) (ls' := [some (.inr (.inr (5, 0))), some (.inl x1)]) (st' := []) (M' := M) rfl c_2 ?_
      refine Wp.path (k := 22) [] (C := [0 ≤ x1 ∧ x1 < 48, 0 ≤ x1 ∧ x1 < 48, 0 ≤ x1 ∧ x1 < 48, 0 ≤ x1 ∧ x1 < 48]) (pc' := 50) (ls' := [some (.inr (.inr (5, 0))), some (.inl x1)]) (st' := []) (M' := setJ M 606 0 x1.toNat (((M.2 605 0 x1.toNat) &&& (lsh (M.2 605 0 x1.toNat) 1)) &&& (lus (M.2 605 0 x1.toNat) 1))) rfl ⟨h.1, h.1, h.1, h.1⟩ ?_
      replace h := h.2
      refine Bd (P := fun M1 : Mm => Wp 1 512 50 [some (.inr (.inr (5, 0))), some (.inl x1)] [] M1 (rV Q)) ?_
      intro M1 e_M1
      replace h := h M1 e_M1
      refine Wp.path (k := 2) [] (C := [inR (x1 + 1)]) (pc' := 2) (ls' := [some (.inr (.inr (5, 0))), some (.inl (x1 + 1))]) (st' := []) (M' := M1) rfl h.1 ?_
      replace h := h.2
      exact h
    · replace h := h.1 c_2
      refine Wp.path (k := 1) [1] (C := [48 ≤ x1]) (pc' := 56) (ls' := [some (.inr (.inr (5, 0))), some (.inl x1)]) (st' := []) (M' := M) rfl c_2 ?_
      refine Wp.path (k := 2) [] (C := []) (pc' := 58) (ls' := [some (.inr (.inr (5, 0))), some (.inl 0)]) (st' := []) (M' := M) rfl trivial ?_
      exact h
  · replace h := h.1 c_1
    refine Wp.path (k := 1) [1] (C := [48 ≤ x1]) (pc' := 56) (ls' := [some (.inr (.inr (5, 0))), some (.inl x1)]) (st' := []) (M' := M) rfl c_1 ?_
    refine Wp.path (k := 2) [] (C := []) (pc' := 58) (ls' := [some (.inr (.inr (5, 0))), some (.inl 0)]) (st' := []) (M' := M) rfl trivial ?_
    exact h
theorem s_512_58 {x1 : Int} {M : Mm} {Q : Mm → Prop} (h : ((48 ≤ x1 → (Q M)) ∧ (x1 < 48 → (((-2147483648 ≤ x1 - 1 ∧ x1 - 1 ≤ 2147483647)) ∧ (((-2147483648 ≤ x1 + 1 ∧ x1 + 1 ≤ 2147483647)) ∧ (((0 ≤ x1 ∧ x1 < 48)) ∧ (∀ M1 : Mm, M1 = setJ M 605 0 x1.toNat (((atJ 48 (M.2 606 0) (x1 - 1)) &&& (atJ 48 (M.2 606 0) x1)) &&& (atJ 48 (M.2 606 0) (x1 + 1))) → (((-2147483648 ≤ x1 + 1 ∧ x1 + 1 ≤ 2147483647)) ∧ (L_512_58 (x1 + 1) M1 Q))))))))) : L_512_58 x1 M Q := by
  show Wp 1 512 58 [some (.inr (.inr (5, 0))), some (.inl x1)] [] M (rV Q)
  refine Wp.path (k := 4) [] (C := []) (pc' := 64) (ls' := [some (.inr (.inr (5, 0))), some (.inl x1)]) (st' := [.inl 48, .inl x1]) (M' := M) rfl trivial ?_
  rcases Int.lt_or_le (x1) (48) with c_1 | c_1
  · replace h := h.2 c_1
    refine Wp.path (k := 1) [0] (C := [x1 < 48]) (pc' := 67) (ls' := [some (.inr (.inr (5, 0))), some (.inl x1)]) (st' := []) (M' := M) rfl c_1 ?_
    refine Wp.path (k := 8) [] (C := [inR (x1 - 1)]) (pc' := 79) (ls' := [some (.inr (.inr (5, 0))), some (.inl x1)]) (st' := [.inl (x1 - 1), .inr (.inr (606, 0)), .inl x1, .inr (.inr (605, 0))]) (M' := M) rfl h.1 ?_
    replace h := h.2
    refine Wp.call (rat_606) rfl rfl (by decide) ?_
    rintro v_ M_ ⟨eM_, ev_⟩
    rw [eM_, ev_]
    clear eM_ ev_ v_ M_
    show Wp 1 512 82 [some (.inr (.inr (5, 0))), some (.inl x1)] [.inr (.inl (atJ 48 (M.2 606 0) (x1 - 1))), .inl x1, .inr (.inr (605, 0))] M (rV Q)
    refine Wp.path (k := 3) [] (C := []) (pc' := 87) (ls' := [some (.inr (.inr (5, 0))), some (.inl x1)]) (st' := [.inl x1, .inr (.inr (606, 0)), .inr (.inl (atJ 48 (M.2 606 0) (x1 - 1))), .inl x1, .inr (.inr (605, 0))]) (M' := M) rfl trivial ?_
    refine Wp.call (rat_606) rfl rfl (by decide) ?_
    rintro v_ M_ ⟨eM_, ev_⟩
    rw [eM_, ev_]
    clear eM_ ev_ v_ M_
    show Wp 1 512 90 [some (.inr (.inr (5, 0))), some (.inl x1)] [.inr (.inl (atJ 48 (M.2 606 0) x1)), .inr (.inl (atJ 48 (M.2 606 0) (x1 - 1))), .inl x1, .inr (.inr (605, 0))] M (rV Q)
    refine Wp.path (k := 6) [] (C := [inR (x1 + 1)]) (pc' := 98) (ls' := [some (.inr (.inr (5, 0))), some (.inl x1)]) (st' := [.inl (x1 + 1), .inr (.inr (606, 0)), .inr (.inl ((atJ 48 (M.2 606 0) (x1 - 1)) &&& (atJ 48 (M.2 606 0) x1))), .inl x1, .inr (.inr (605, 0))]) (M' := M) rfl h.1 ?_
    replace h := h.2
    refine Wp.call (rat_606) rfl rfl (by decide) ?_
    rintro v_ M_ ⟨eM_, ev_⟩
    rw [eM_, ev_]
    clear eM_ ev_ v_ M_
    show Wp 1 512 101 [some (.inr (.inr (5, 0))), some (.inl x1)] [.inr (.inl (atJ 48 (M.2 606 0) (x1 + 1))), .inr (.inl ((atJ 48 (M.2 606 0) (x1 - 1)) &&& (atJ 48 (M.2 606 0) x1))), .inl x1, .inr (.inr (605, 0))] M (rV Q)
    refine Wp.path (k := 2) [] (C := [0 ≤ x1 ∧ x1 < 48]) (pc' := 103) (ls' := [some (.inr (.inr (5, 0))), some (.inl x1)]) (st' := []) (M' := setJ M 605 0 x1.toNat (((atJ 48 (M.2 606 0) (x1 - 1)) &&& (atJ 48 (M.2 606 0) x1)) &&& (atJ 48 (M.2 606 0) (x1 + 1)))) rfl h.1 ?_
    replace h := h.2
    refine Bd (P := fun M1 : Mm => Wp 1 512 103 [some (.inr (.inr (5, 0))), some (.inl x1)] [] M1 (rV Q)) ?_
    intro M1 e_M1
    replace h := h M1 e_M1
    refine Wp.path (k := 2) [] (C := [inR (x1 + 1)]) (pc' := 58) (ls' := [some (.inr (.inr (5, 0))), some (.inl (x1 + 1))]) (st' := []) (M' := M1) rfl h.1 ?_
    replace h := h.2
    exact h
  · replace h := h.1 c_1
    refine Wp.path (k := 1) [1] (C := [48 ≤ x1]) (pc' := 109) (ls' := [some (.inr (.inr (5, 0))), some (.inl x1)]) (st' := []) (M' := M) rfl c_1 ?_
    exact Wp.ret rfl ⟨rfl, h⟩
/-- X5_measure -/
def E_507 (i1 : Nat) (M : Mm) (Q : Mm → Prop) : Prop := Ev 2 507 [.inr (.inr (5, 0)), .inr (.inr (4, i1))] M (rV Q)
theorem m_507 {i1 : Nat} {M : Mm} {Q Q1 : Mm → Prop} (h : E_507 i1 M Q) (k : (∀ M1, Q M1 → Q1 M1)) : E_507 i1 M Q1 := Ev.mono h (fun v M1 h => ⟨h.1, k _ h.2⟩)
def L_507_33 (i1 : Nat) (x2 : Int) (x3 : Int) (M : Mm) (Q : Mm → Prop) : Prop := Wp 2 507 33 [some (.inr (.inr (5, 0))), some (.inr (.inr (4, i1))), some (.inl x2), some (.inl x3)] [] M (rV Q)
theorem s_507_0 {i1 : Nat} {M : Mm} {Q : Mm → Prop} (h : (∀ M1 : Mm, M1 = setI M 5 0 11 0 → (∀ M1_1 : Mm, M1_1 = setA M1 608 0 (upTo (fun _ => 0) (M1.1 608 0) 144) → (∀ M1_2 : Mm, M1_2 = setA M1_1 607 0 (upTo (fun _ => 0) (M1_1.1 607 0) 26) → (E_508 i1 M1_2 (fun M1_3 : Mm => (E_509 M1_3 (fun (r : Int) (M1_4 : Mm) => (L_507_33 i1 r 1 M1_4 Q))))))))) : E_507 i1 M Q := by
  show Wp 2 507 0 [some (.inr (.inr (5, 0))), some (.inr (.inr (4, i1))), none, none] [] M (rV Q)
  refine Wp.path (k := 3) [] (C := []) (pc' := 5) (ls' := [some (.inr (.inr (5, 0))), some (.inr (.inr (4, i1))), none, none]) (st' := []) (M' := setI M 5 0 11 0) rfl trivial ?_
  refine Bd (P := fun M1 : Mm => Wp 2 507 5 [some (.inr (.inr (5, 0))), some (.inr (.inr (4, i1))), none, none] [] M1 (rV Q)) ?_
  intro M1 e_M1
  replace h := h M1 e_M1
  refine Wp.path (k := 3) [] (C := []) (pc' := 10) (ls' := [some (.inr (.inr (5, 0))), some (.inr (.inr (4, i1))), none, none]) (st' := [.inl 0, .inr (.inr (608, 0))]) (M' := M1) rfl trivial ?_
  refine Wp.call (fill_608) rfl rfl (by decide) ?_
  rintro v_ M_ ⟨eM_, ev_⟩
  rw [eM_, ev_]
  clear eM_ ev_ v_ M_
  refine Bd (e := setA M1 608 0 (upTo (fun _ => 0) (M1.1 608 0) 144)) (P := fun M1_1 : Mm => Wp 2 507 13 [some (.inr (.inr (5, 0))), some (.inr (.inr (4, i1))), none, none] [] M1_1 (rV Q)) ?_
  intro M1_1 e_M1_1
  replace h := h M1_1 e_M1_1
  refine Wp.path (k := 3) [] (C := []) (pc' := 18) (ls' := [some (.inr (.inr (5, 0))), some (.inr (.inr (4, i1))), none, none]) (st' := [.inl 0, .inr (.inr (607, 0))]) (M' := M1_1) rfl trivial ?_
  refine Wp.call (fill_607) rfl rfl (by decide) ?_
  rintro v_ M_ ⟨eM_, ev_⟩
  rw [eM_, ev_]
  clear eM_ ev_ v_ M_
  refine Bd (e := setA M1_1 607 0 (upTo (fun _ => 0) (M1_1.1 607 0) 26)) (P := fun M1_2 : Mm => Wp 2 507 21 [some (.inr (.inr (5, 0))), some (.inr (.inr (4, i1))), none, none] [] M1_2 (rV Q)) ?_
  intro M1_2 e_M1_2
  replace h := h M1_2 e_M1_2
  refine Wp.path (k := 2) [] (C := []) (pc' := 23) (ls' := [some (.inr (.inr (5, 0))), some (.inr (.inr (4, i1))), none, none]) (st' := [.inr (.inr (4, i1)), .inr (.inr (5, 0))]) (M' := M1_2) rfl trivial ?_
  refine Wp.call h rfl rfl (by decide) ?_
  rintro _ M1_3 ⟨rfl, h⟩
  show Wp 2 507 26 [some (.inr (.inr (5, 0))), some (.inr (.inr (4, i1))), none, none] [] M1_3 (rV Q)
  refine Wp.path (k := 1) [] (C := []) (pc' := 27) (ls' := [some (.inr (.inr (5, 0))), some (.inr (.inr (4, i1))), none, none]) (st' := [.inr (.inr (5, 0))]) (M' := M1_3) rfl trivial ?_
  refine Wp.call h rfl rfl (by decide) ?_
  rintro _ M1_4 ⟨r, rfl, h⟩
  show Wp 2 507 30 [some (.inr (.inr (5, 0))), some (.inr (.inr (4, i1))), none, none] [.inl r] M1_4 (rV Q)
  refine Wp.path (k := 3) [] (C := []) (pc' := 33) (ls' := [some (.inr (.inr (5, 0))), some (.inr (.inr (4, i1))), some (.inl r), some (.inl 1)]) (st' := []) (M' := M1_4) rfl trivial ?_
  exact h
theorem s_507_33 {i1 : Nat} {x2 : Int} {x3 : Int} {M : Mm} {Q : Mm → Prop} (h : ((26 ≤ x3 → (Q M)) ∧ (x3 < 26 → ((x2 ≤ 0 → (Q M)) ∧ (0 < x2 → (((0 ≤ x3 ∧ x3 < 26)) ∧ (∀ M1 : Mm, M1 = setI M 607 0 x3.toNat x2 → (E_510 x3 M1 (fun M1_1 : Mm => ((-2147483648 ≤ x3 ∧ x3 ≤ 2147483647)) ∧ (∀ d : Int, d = Int.tmod x3 2 → ((d ≠ 0 → (E_512 M1_1 (fun M1_6 : Mm => (E_509 M1_6 (fun (r_1 : Int) (M1_7 : Mm) => ((-2147483648 ≤ x3 + 1 ∧ x3 + 1 ≤ 2147483647)) ∧ (L_507_33 i1 r_1 (x3 + 1) M1_7 Q)))))) ∧ (d = 0 → (((-2147483648 ≤ (M1_1.1 5 0 11) + 1 ∧ (M1_1.1 5 0 11) + 1 ≤ 2147483647)) ∧ (∀ M1_2 : Mm, M1_2 = setI M1_1 5 0 11 ((M1_1.1 5 0 11) + 1) → (((-2147483648 ≤ (M1_2.1 5 0 11) - 1 ∧ (M1_2.1 5 0 11) - 1 ≤ 2147483647)) ∧ (E_511 (phV (M1_2.1 5 0 11) ((M1_2.1 5 0 11) - 1)) M1_2 (fun M1_3 : Mm => (E_512 M1_3 (fun M1_4 : Mm => (E_509 M1_4 (fun (r : Int) (M1_5 : Mm) => ((-2147483648 ≤ x3 + 1 ∧ x3 + 1 ≤ 2147483647)) ∧ (L_507_33 i1 r (x3 + 1) M1_5 Q)))))))))))))))))))))) : L_507_33 i1 x2 x3 M Q := by
  show Wp 2 507 33 [some (.inr (.inr (5, 0))), some (.inr (.inr (4, i1))), some (.inl x2), some (.inl x3)] [] M (rV Q)
  refine Wp.path (k := 4) [] (C := []) (pc' := 39) (ls' := [some (.inr (.inr (5, 0))), some (.inr (.inr (4, i1))), some (.inl x2), some (.inl x3)]) (st' := [.inl 26, .inl x3]) (M' := M) rfl trivial ?_
  rcases Int.lt_or_le (x3) (26) with c_1 | c_1
  · replace h := h.2 c_1
    refine Wp.path (k := 1) [0] (C := [x3 < 26]) (pc' := 42) (ls' := [some (.inr (.inr (5, 0))), some (.inr (.inr (4, i1))), some (.inl x2), some (.inl x3)]) (st' := []) (M' := M) rfl c_1 ?_
    refine Wp.path (k := 1) [] (C := []) (pc' := 43) (ls' := [some (.inr (.inr (5, 0))), some (.inr (.inr (4, i1))), some (.inl x2), some (.inl x3)]) (st' := [.inl x2]) (M' := M) rfl trivial ?_
    rcases Int.lt_or_le (0) (x2) with c_2 | c_2
    · replace h := h.2 c_2
      refine Wp.path (k := 1) [0] (C := [0 < x2]) (pc' := 46) (ls' := [some (.inr (.inr (5, 0))), some (.inr (.inr (4, i1))), some (.inl x2), some (.inl x3)]) (st' := []) (M' := M) rfl c_2 ?_
      refine Wp.path (k := 5) [] (C := [0 ≤ x3 ∧ x3 < 26]) (pc' := 53) (ls' := [some (.inr (.inr (5, 0))), some (.inr (.inr (4, i1))), some (.inl x2), some (.inl x3)]) (st' := []) (M' := setI M 607 0 x3.toNat x2) rfl h.1 ?_
      replace h := h.2
      refine Bd (P := fun M1 : Mm => Wp 2 507 53 [some (.inr (.inr (5, 0))), some (.inr (.inr (4, i1))), some (.inl x2), some (.inl x3)] [] M1 (rV Q)) ?_
      intro M1 e_M1
      replace h := h M1 e_M1
      refine Wp.path (k := 2) [] (C := []) (pc' := 55) (ls' := [some (.inr (.inr (5, 0))), some (.inr (.inr (4, i1))), some (.inl x2), some (.inl x3)]) (st' := [.inl x3, .inr (.inr (5, 0))]) (M' := M1) rfl trivial ?_
      refine Wp.call h rfl rfl (by decide) ?_
      rintro _ M1_1 ⟨rfl, h⟩
      show Wp 2 507 58 [some (.inr (.inr (5, 0))), some (.inr (.inr (4, i1))), some (.inl x2), some (.inl x3)] [] M1_1 (rV Q)
      refine Wp.path (k := 3) [] (C := [inR x3 ∧ 0 < 2 ∧ inR 2]) (pc' := 61) (ls' := [some (.inr (.inr (5, 0))), some (.inr (.inr (4, i1))), some (.inl x2), some (.inl x3)]) (st' := [.inl (Int.tmod x3 2)]) (M' := M1_1) rfl ⟨h.1, by decide, ⟨by decide, by decide⟩⟩ ?_
      replace h := h.2
      refine Bd (P := fun d : Int => Wp 2 507 61 [some (.inr (.inr (5, 0))), some (.inr (.inr (4, i1))), some (.inl x2), some (.inl x3)] [.inl d] M1_1 (rV Q)) ?_
      intro d e_d
      replace h := h d e_d
      rcases Decidable.em (d = 0) with c_3 | c_3
      · replace h := h.2 c_3
        refine Wp.path (k := 1) [0] (C := [d = 0]) (pc' := 64) (ls' := [some (.inr (.inr (5, 0))), some (.inr (.inr (4, i1))), some (.inl x2), some (.inl x3)]) (st' := []) (M' := M1_1) rfl c_3 ?_
        refine Wp.path (k := 6) [] (C := [inR ((M1_1.1 5 0 11) + 1)]) (pc' := 74) (ls' := [some (.inr (.inr (5, 0))), some (.inr (.inr (4, i1))), some (.inl x2), some (.inl x3)]) (st' := []) (M' := setI M1_1 5 0 11 ((M1_1.1 5 0 11) + 1)) rfl h.1 ?_
        replace h := h.2
        refine Bd (P := fun M1_2 : Mm => Wp 2 507 74 [some (.inr (.inr (5, 0))), some (.inr (.inr (4, i1))), some (.inl x2), some (.inl x3)] [] M1_2 (rV Q)) ?_
        intro M1_2 e_M1_2
        replace h := h M1_2 e_M1_2
        refine Wp.path (k := 6) [] (C := [inR ((M1_2.1 5 0 11) - 1)]) (pc' := 82) (ls' := [some (.inr (.inr (5, 0))), some (.inr (.inr (4, i1))), some (.inl x2), some (.inl x3)]) (st' := [.inl ((M1_2.1 5 0 11) - 1), .inr (.inr (5, 0)), .inr (.inr (5, 0))]) (M' := M1_2) rfl h.1 ?_
        replace h := h.2
        refine Wp.call (e503) rfl rfl (by decide) ?_
        rintro v_ M_ ⟨eM_, ev_⟩
        rw [eM_, ev_]
        clear eM_ ev_ v_ M_
        show Wp 2 507 85 [some (.inr (.inr (5, 0))), some (.inr (.inr (4, i1))), some (.inl x2), some (.inl x3)] [.inr (.inr (3, (phV (M1_2.1 5 0 11) ((M1_2.1 5 0 11) - 1)))), .inr (.inr (5, 0))] M1_2 (rV Q)
        refine Wp.call h rfl rfl (by decide) ?_
        rintro _ M1_3 ⟨rfl, h⟩
        show Wp 2 507 88 [some (.inr (.inr (5, 0))), some (.inr (.inr (4, i1))), some (.inl x2), some (.inl x3)] [] M1_3 (rV Q)
        refine Wp.path (k := 1) [] (C := []) (pc' := 89) (ls' := [some (.inr (.inr (5, 0))), some (.inr (.inr (4, i1))), some (.inl x2), some (.inl x3)]) (st' := [.inr (.inr (5, 0))]) (M' := M1_3) rfl trivial ?_
        refine Wp.call h rfl rfl (by decide) ?_
        rintro _ M1_4 ⟨rfl, h⟩
        show Wp 2 507 92 [some (.inr (.inr (5, 0))), some (.inr (.inr (4, i1))), some (.inl x2), some (.inl x3)] [] M1_4 (rV Q)
        refine Wp.path (k := 1) [] (C := []) (pc' := 93) (ls' := [some (.inr (.inr (5, 0))), some (.inr (.inr (4, i1))), some (.inl x2), some (.inl x3)]) (st' := [.inr (.inr (5, 0))]) (M' := M1_4) rfl trivial ?_
        refine Wp.call h rfl rfl (by decide) ?_
        rintro _ M1_5 ⟨r, rfl, h⟩
        show Wp 2 507 96 [some (.inr (.inr (5, 0))), some (.inr (.inr (4, i1))), some (.inl x2), some (.inl x3)] [.inl r] M1_5 (rV Q)
        refine Wp.path (k := 3) [] (C := [inR (x3 + 1)]) (pc' := 33) (ls' := [some (.inr (.inr (5, 0))), some (.inr (.inr (4, i1))), some (.inl r), some (.inl (x3 + 1))]) (st' := []) (M' := M1_5) rfl h.1 ?_
        replace h := h.2
        exact h
      · replace h := h.1 c_3
        refine Wp.path (k := 1) [1] (C := [d ≠ 0]) (pc' := 88) (ls' := [some (.inr (.inr (5, 0))), some (.inr (.inr (4, i1))), some (.inl x2), some (.inl x3)]) (st' := []) (M' := M1_1) rfl c_3 ?_
        refine Wp.path (k := 1) [] (C := []) (pc' := 89) (ls' := [some (.inr (.inr (5, 0))), some (.inr (.inr (4, i1))), some (.inl x2), some (.inl x3)]) (st' := [.inr (.inr (5, 0))]) (M' := M1_1) rfl trivial ?_
        refine Wp.call h rfl rfl (by decide) ?_
        rintro _ M1_6 ⟨rfl, h⟩
        show Wp 2 507 92 [some (.inr (.inr (5, 0))), some (.inr (.inr (4, i1))), some (.inl x2), some (.inl x3)] [] M1_6 (rV Q)
        refine Wp.path (k := 1) [] (C := []) (pc' := 93) (ls' := [some (.inr (.inr (5, 0))), some (.inr (.inr (4, i1))), some (.inl x2), some (.inl x3)]) (st' := [.inr (.inr (5, 0))]) (M' := M1_6) rfl trivial ?_
        refine Wp.call h rfl rfl (by decide) ?_
        rintro _ M1_7 ⟨r_1, rfl, h⟩
        show Wp 2 507 96 [some (.inr (.inr (5, 0))), some (.inr (.inr (4, i1))), some (.inl x2), some (.inl x3)] [.inl r_1] M1_7 (rV Q)
        refine Wp.path (k := 3) [] (C := [inR (x3 + 1)]) (pc' := 33) (ls' := [some (.inr (.inr (5, 0))), some (.inr (.inr (4, i1))), some (.inl r_1), some (.inl (x3 + 1))]) (st' := []) (M' := M1_7) rfl h.1 ?_
        replace h := h.2
        exact h
    · replace h := h.1 c_2
      refine Wp.path (k := 1) [1] (C := [x2 ≤ 0]) (pc' := 103) (ls' := [some (.inr (.inr (5, 0))), some (.inr (.inr (4, i1))), some (.inl x2), some (.inl x3)]) (st' := []) (M' := M) rfl c_2 ?_
      exact Wp.ret rfl ⟨rfl, h⟩
  · replace h := h.1 c_1
    refine Wp.path (k := 1) [1] (C := [26 ≤ x3]) (pc' := 103) (ls' := [some (.inr (.inr (5, 0))), some (.inr (.inr (4, i1))), some (.inl x2), some (.inl x3)]) (st' := []) (M' := M) rfl c_1 ?_
    exact Wp.ret rfl ⟨rfl, h⟩
/-- X5_lowestTouched -/
def E_517 (x1 : Int) (M : Mm) (Q : Int → Mm → Prop) : Prop := Ev 3 517 [.inr (.inr (5, 0)), .inl x1] M (rI Q)
theorem m_517 {x1 : Int} {M : Mm} {Q Q1 : Int → Mm → Prop} (h : E_517 x1 M Q) (k : (∀ r M1, Q r M1 → Q1 r M1)) : E_517 x1 M Q1 := Ev.mono h (fun v M1 ⟨r, h1, h2⟩ => ⟨r, h1, k _ _ h2⟩)
def L_517_40 (x1 : Int) (x2 : Int) (x3 : Int) (x4 : Int) (x5 : Int) (x6 : Int) (M : Mm) (Q : Int → Mm → Prop) : Prop := ∀ o7 o8 o9 o10 : Option Vv, Wp 3 517 40 [some (.inr (.inr (5, 0))), some (.inl x1), some (.inl x2), some (.inl x3), some (.inl x4), some (.inl x5), some (.inl x6), o7, o8, o9, o10] [] M (rI Q)
theorem s_517_0 {x1 : Int} {M : Mm} {Q : Int → Mm → Prop} (h : (((-2147483648 ≤ 2 * (atN 144 (M.1 608 0) x1) ∧ 2 * (atN 144 (M.1 608 0) x1) ≤ 2147483647) ∧ (-2147483648 ≤ (2 * (atN 144 (M.1 608 0) x1)) - 1 ∧ (2 * (atN 144 (M.1 608 0) x1)) - 1 ≤ 2147483647)) ∧ (∀ x2 : Int, x2 = (2 * (atN 144 (M.1 608 0) x1)) - 1 → (((-2147483648 ≤ x1 ∧ x1 ≤ 2147483647)) ∧ (∀ d : Int, d = Int.tmod x1 12 → (((-2147483648 ≤ 8 * d ∧ 8 * d ≤ 2147483647) ∧ (-2147483648 ≤ (8 * d) + 1 ∧ (8 * d) + 1 ≤ 2147483647)) ∧ (∀ x3 : Int, x3 = (8 * d) + 1 → (((-2147483648 ≤ x1 ∧ x1 ≤ 2147483647)) ∧ (∀ d_1 : Int, d_1 = Int.tdiv x1 12 → (((-2147483648 ≤ 8 * d_1 ∧ 8 * d_1 ≤ 2147483647) ∧ (-2147483648 ≤ (8 * d_1) + 3 ∧ (8 * d_1) + 3 ≤ 2147483647)) ∧ (∀ x4 : Int, x4 = (8 * d_1) + 3 → (L_517_40 x1 x2 x3 x4 (-1) 0 M Q)))))))))))) : E_517 x1 M Q := by
  show Wp 3 517 0 [some (.inr (.inr (5, 0))), some (.inl x1), none, none, none, none, none, none, none, none, none] [] M (rI Q)
  refine Wp.path (k := 4) [] (C := []) (pc' := 6) (ls' := [some (.inr (.inr (5, 0))), some (.inl x1), none, none, none, none, none, none, none, none, none]) (st' := [.inl x1, .inr (.inr (608, 0)), .inl 2]) (M' := M) rfl trivial ?_
  refine Wp.call (at_608) rfl rfl (by decide) ?_
  rintro v_ M_ ⟨eM_, ev_⟩
  rw [eM_, ev_]
  clear eM_ ev_ v_ M_
  show Wp 3 517 9 [some (.inr (.inr (5, 0))), some (.inl x1), none, none, none, none, none, none, none, none, none] [.inl (atN 144 (M.1 608 0) x1), .inl 2] M (rI Q)
  refine Wp.path (k := 4) [] (C := [inR (2 * (atN 144 (M.1 608 0) x1)), inR ((2 * (atN 144 (M.1 608 0) x1)) - 1)]) (pc' := 13) (ls' := [some (.inr (.inr (5, 0))), some (.inl x1), some (.inl ((2 * (atN 144 (M.1 608 0) x1)) - 1)), none, none, none, none, none, none, none, none]) (st' := []) (M' := M) rfl ⟨h.1.1, h.1.2⟩ ?_
  replace h := h.2
  refine Bd (P := fun x2 : Int => Wp 3 517 13 [some (.inr (.inr (5, 0))), some (.inl x1), some (.inl x2), none, none, none, none, none, none, none, none] [] M (rI Q)) ?_
  intro x2 e_x2
  replace h := h x2 e_x2
  refine Wp.path (k := 4) [] (C := [inR x1 ∧ 0 < 12 ∧ inR 12]) (pc' := 19) (ls' := [some (.inr (.inr (5, 0))), some (.inl x1), some (.inl x2), none, none, none, none, none, none, none, none]) (st' := [.inl (Int.tmod x1 12), .inl 8]) (M' := M) rfl ⟨h.1, by decide, ⟨by decide, by decide⟩⟩ ?_
  replace h := h.2
  refine Bd (P := fun d : Int => Wp 3 517 19 [some (.inr (.inr (5, 0))), some (.inl x1), some (.inl x2), none, none, none, none, none, none, none, none] [.inl d, .inl 8] M (rI Q)) ?_
  intro d e_d
  replace h := h d e_d
  refine Wp.path (k := 4) [] (C := [inR (8 * d), inR ((8 * d) + 1)]) (pc' := 23) (ls' := [some (.inr (.inr (5, 0))), some (.inl x1), some (.inl x2), some (.inl ((8 * d) + 1)), none, none, none, none, none, none, none]) (st' := []) (M' := M) rfl ⟨h.1.1, h.1.2⟩ ?_
  replace h := h.2
  refine Bd (P := fun x3 : Int => Wp 3 517 23 [some (.inr (.inr (5, 0))), some (.inl x1), some (.inl x2), some (.inl x3), none, none, none, none, none, none, none] [] M (rI Q)) ?_
  intro x3 e_x3
  replace h := h x3 e_x3
  refine Wp.path (k := 4) [] (C := [inR x1 ∧ 0 < 12 ∧ inR 12]) (pc' := 29) (ls' := [some (.inr (.inr (5, 0))), some (.inl x1), some (.inl x2), some (.inl x3), none, none, none, none, none, none, none]) (st' := [.inl (Int.tdiv x1 12), .inl 8]) (M' := M) rfl ⟨h.1, by decide, ⟨by decide, by decide⟩⟩ ?_
  replace h := h.2
  refine Bd (P := fun d_1 : Int => Wp 3 517 29 [some (.inr (.inr (5, 0))), some (.inl x1), some (.inl x2), some (.inl x3), none, none, none, none, none, none, none] [.inl d_1, .inl 8] M (rI Q)) ?_
  intro d_1 e_d_1
  replace h := h d_1 e_d_1
  refine Wp.path (k := 4) [] (C := [inR (8 * d_1), inR ((8 * d_1) + 3)]) (pc' := 34) (ls' := [some (.inr (.inr (5, 0))), some (.inl x1), some (.inl x2), some (.inl x3), some (.inl ((8 * d_1) + 3)), none, none, none, none, none, none]) (st' := []) (M' := M) rfl ⟨h.1.1, h.1.2⟩ ?_
  replace h := h.2
  refine Bd (P := fun x4 : Int => Wp 3 517 34 [some (.inr (.inr (5, 0))), some (.inl x1), some (.inl x2), some (.inl x3), some (.inl x4), none, none, none, none, none, none] [] M (rI Q)) ?_
  intro x4 e_x4
  replace h := h x4 e_x4
  refine Wp.path (k := 4) [] (C := []) (pc' := 40) (ls' := [some (.inr (.inr (5, 0))), some (.inl x1), some (.inl x2), some (.inl x3), some (.inl x4), some (.inl (-1)), some (.inl 0), none, none, none, none]) (st' := []) (M' := M) rfl trivial ?_
  exact h _ _ _ _
theorem s_517_40 {x1 : Int} {x2 : Int} {x3 : Int} {x4 : Int} {x5 : Int} {x6 : Int} {M : Mm} {Q : Int → Mm → Prop} (h : ((3 < x6 → (Q x5 M)) ∧ (x6 ≤ 3 → (∀ b : Int, b = (if levV x6 = 0 then x3 else x4) → (∀ b_1 : Int, b_1 = (if levV x6 = 0 then x4 else x3) → ((upV x6 = 0 → ((-2147483648 ≤ b + x2 ∧ b + x2 ≤ 2147483647))) ∧ (upV x6 ≠ 0 → ((-2147483648 ≤ b - x2 ∧ b - x2 ≤ 2147483647))) ∧ (∀ b_2 : Int, b_2 = (if upV x6 = 0 then (b + x2) else (b - x2)) → (((-2147483648 ≤ b_1 - x2 ∧ b_1 - x2 ≤ 2147483647) ∧ (-2147483648 ≤ b_1 + x2 ∧ b_1 + x2 ≤ 2147483647)) ∧ (E_9 x6 b_2 (b_1 - x2) (b_1 + x2) 1 M (fun (r : Int) (M1 : Mm) => (∀ x5_1 : Int, x5_1 = (if r < 0 then x5 else (if x5 < 0 then r else (if x5 ≤ r then x5 else r))) → (((-2147483648 ≤ x6 + 1 ∧ x6 + 1 ≤ 2147483647)) ∧ (L_517_40 x1 x2 x3 x4 x5_1 (x6 + 1) M1 Q))))))))))))) : L_517_40 x1 x2 x3 x4 x5 x6 M Q := by
  intro o7 o8 o9 o10
  show Wp 3 517 40 [some (.inr (.inr (5, 0))), some (.inl x1), some (.inl x2), some (.inl x3), some (.inl x4), some (.inl x5), some (.inl x6), o7, o8, o9, o10] [] M (rI Q)
  refine Wp.path (k := 2) [] (C := []) (pc' := 43) (ls' := [some (.inr (.inr (5, 0))), some (.inl x1), some (.inl x2), some (.inl x3), some (.inl x4), some (.inl x5), some (.inl x6), o7, o8, o9, o10]) (st' := [.inl 3, .inl x6]) (M' := M) rfl trivial ?_
  rcases Int.lt_or_le (3) (x6) with c_1 | c_1
  · replace h := h.1 c_1
    refine Wp.path (k := 1) [1] (C := [3 < x6]) (pc' := 148) (ls' := [some (.inr (.inr (5, 0))), some (.inl x1), some (.inl x2), some (.inl x3), some (.inl x4), some (.inl x5), some (.inl x6), o7, o8, o9, o10]) (st' := []) (M' := M) rfl c_1 ?_
    refine Wp.path (k := 1) [] (C := []) (pc' := 150) (ls' := [some (.inr (.inr (5, 0))), some (.inl x1), some (.inl x2), some (.inl x3), some (.inl x4), some (.inl x5), some (.inl x6), o7, o8, o9, o10]) (st' := [.inl x5]) (M' := M) rfl trivial ?_
    exact Wp.ret rfl ⟨_, rfl, h⟩
  · replace h := h.2 c_1
    refine Wp.path (k := 1) [0] (C := [x6 ≤ 3]) (pc' := 46) (ls' := [some (.inr (.inr (5, 0))), some (.inl x1), some (.inl x2), some (.inl x3), some (.inl x4), some (.inl x5), some (.inl x6), o7, o8, o9, o10]) (st' := []) (M' := M) rfl c_1 ?_
    refine Wp.path (k := 1) [] (C := []) (pc' := 48) (ls' := [some (.inr (.inr (5, 0))), some (.inl x1), some (.inl x2), some (.inl x3), some (.inl x4), some (.inl x5), some (.inl x6), o7, o8, o9, o10]) (st' := [.inl x6]) (M' := M) rfl trivial ?_
    refine Wp.call (e942) rfl rfl (by decide) ?_
    rintro v_ M_ ⟨eM_, ev_⟩
    rw [eM_, ev_]
    clear eM_ ev_ v_ M_
    show Wp 3 517 51 [some (.inr (.inr (5, 0))), some (.inl x1), some (.inl x2), some (.inl x3), some (.inl x4), some (.inl x5), some (.inl x6), o7, o8, o9, o10] [.inl (levV x6)] M (rI Q)
    have k_10 : ∀ b : Int, b = (if levV x6 = 0 then x3 else x4) → Wp 3 517 60 [some (.inr (.inr (5, 0))), some (.inl x1), some (.inl x2), some (.inl x3), some (.inl x4), some (.inl x5), some (.inl x6), o7, o8, o9, o10] [.inl b] M (rI Q) := by
      intro b e_b
      replace h := h b e_b
      refine Wp.path (k := 2) [] (C := []) (pc' := 64) (ls' := [some (.inr (.inr (5, 0))), some (.inl x1), some (.inl x2), some (.inl x3), some (.inl x4), some (.inl x5), some (.inl x6), some (.inl b), o8, o9, o10]) (st' := [.inl x6]) (M' := M) rfl trivial ?_
      refine Wp.call (e942) rfl rfl (by decide) ?_
      rintro v_ M_ ⟨eM_, ev_⟩
      rw [eM_, ev_]
      clear eM_ ev_ v_ M_
      show Wp 3 517 67 [some (.inr (.inr (5, 0))), some (.inl x1), some (.inl x2), some (.inl x3), some (.inl x4), some (.inl x5), some (.inl x6), some (.inl b), o8, o9, o10] [.inl (levV x6)] M (rI Q)
      have k_8 : ∀ b_1 : Int, b_1 = (if levV x6 = 0 then x4 else x3) → Wp 3 517 76 [some (.inr (.inr (5, 0))), some (.inl x1), some (.inl x2), some (.inl x3), some (.inl x4), some (.inl x5), some (.inl x6), some (.inl b), o8, o9, o10] [.inl b_1] M (rI Q) := by
        intro b_1 e_b_1
        replace h := h b_1 e_b_1
        refine Wp.path (k := 2) [] (C := []) (pc' := 80) (ls' := [some (.inr (.inr (5, 0))), some (.inl x1), some (.inl x2), some (.inl x3), some (.inl x4), some (.inl x5), some (.inl x6), some (.inl b), some (.inl b_1), o9, o10]) (st' := [.inl x6]) (M' := M) rfl trivial ?_
        refine Wp.call (e941) rfl rfl (by decide) ?_
        rintro v_ M_ ⟨eM_, ev_⟩
        rw [eM_, ev_]
        clear eM_ ev_ v_ M_
        show Wp 3 517 83 [some (.inr (.inr (5, 0))), some (.inl x1), some (.inl x2), some (.inl x3), some (.inl x4), some (.inl x5), some (.inl x6), some (.inl b), some (.inl b_1), o9, o10] [.inl (upV x6)] M (rI Q)
        have g6_0 := h.1
        replace h := h.2
        have g6_1 := h.1
        replace h := h.2
        have k_6 : ∀ b_2 : Int, b_2 = (if upV x6 = 0 then (b + x2) else (b - x2)) → Wp 3 517 97 [some (.inr (.inr (5, 0))), some (.inl x1), some (.inl x2), some (.inl x3), some (.inl x4), some (.inl x5), some (.inl x6), some (.inl b), some (.inl b_1), o9, o10] [.inl b_2] M (rI Q) := by
          intro b_2 e_b_2
          replace h := h b_2 e_b_2
          refine Wp.path (k := 12) [] (C := [inR (b_1 - x2), inR (b_1 + x2)]) (pc' := 116) (ls' := [some (.inr (.inr (5, 0))), some (.inl x1), some (.inl x2), some (.inl x3), some (.inl x4), some (.inl x5), some (.inl x6), some (.inl b), some (.inl b_1), some (.inl b_2), o10]) (st' := [.inl 1, .inl (b_1 + x2), .inl (b_1 - x2), .inl b_2, .inl x6, .inr (.inr (0, 0))]) (M' := M) rfl ⟨h.1.1, h.1.2⟩ ?_
          replace h := h.2
          refine Wp.call h rfl rfl (by decide) ?_
          rintro _ M1 ⟨r, rfl, h⟩
          show Wp 3 517 119 [some (.inr (.inr (5, 0))), some (.inl x1), some (.inl x2), some (.inl x3), some (.inl x4), some (.inl x5), some (.inl x6), some (.inl b), some (.inl b_1), some (.inl b_2), o10] [.inl r] M1 (rI Q)
          refine Wp.path (k := 2) [] (C := []) (pc' := 123) (ls' := [some (.inr (.inr (5, 0))), some (.inl x1), some (.inl x2), some (.inl x3), some (.inl x4), some (.inl x5), some (.inl x6), some (.inl b), some (.inl b_1), some (.inl b_2), some (.inl r)]) (st' := [.inl r]) (M' := M1) rfl trivial ?_
          have k_2 : ∀ x5_1 : Int, x5_1 = (if r < 0 then x5 else (if x5 < 0 then r else (if x5 ≤ r then x5 else r))) → Wp 3 517 142 [some (.inr (.inr (5, 0))), some (.inl x1), some (.inl x2), some (.inl x3), some (.inl x4), some (.inl x5_1), some (.inl x6), some (.inl b), some (.inl b_1), some (.inl b_2), some (.inl r)] [] M1 (rI Q) := by
            intro x5_1 e_x5_1
            replace h := h x5_1 e_x5_1
            refine Wp.path (k := 2) [] (C := [inR (x6 + 1)]) (pc' := 40) (ls' := [some (.inr (.inr (5, 0))), some (.inl x1), some (.inl x2), some (.inl x3), some (.inl x4), some (.inl x5_1), some (.inl (x6 + 1)), some (.inl b), some (.inl b_1), some (.inl b_2), some (.inl r)]) (st' := []) (M' := M1) rfl h.1 ?_
            replace h := h.2
            exact h _ _ _ _
          clear h
          rcases Int.lt_or_le (r) (0) with c_3 | c_3
          · refine Wp.path (k := 1) [1] (C := [r < 0]) (pc' := 142) (ls' := [some (.inr (.inr (5, 0))), some (.inl x1), some (.inl x2), some (.inl x3), some (.inl x4), some (.inl x5), some (.inl x6), some (.inl b), some (.inl b_1), some (.inl b_2), some (.inl r)]) (st' := []) (M' := M1) rfl c_3 ?_
            exact k_2 _ (by rw [if_pos c_3])
          · refine Wp.path (k := 1) [0] (C := [0 ≤ r]) (pc' := 126) (ls' := [some (.inr (.inr (5, 0))), some (.inl x1), some (.inl x2), some (.inl x3), some (.inl x4), some (.inl x5), some (.inl x6), some (.inl b), some (.inl b_1), some (.inl b_2), some (.inl r)]) (st' := []) (M' := M1) rfl c_3 ?_
            refine Wp.path (k := 1) [] (C := []) (pc' := 128) (ls' := [some (.inr (.inr (5, 0))), some (.inl x1), some (.inl x2), some (.inl x3), some (.inl x4), some (.inl x5), some (.inl x6), some (.inl b), some (.inl b_1), some (.inl b_2), some (.inl r)]) (st' := [.inl x5]) (M' := M1) rfl trivial ?_
            rcases Int.lt_or_le (x5) (0) with c_4 | c_4
            · refine Wp.path (k := 1) [1] (C := [x5 < 0]) (pc' := 138) (ls' := [some (.inr (.inr (5, 0))), some (.inl x1), some (.inl x2), some (.inl x3), some (.inl x4), some (.inl x5), some (.inl x6), some (.inl b), some (.inl b_1), some (.inl b_2), some (.inl r)]) (st' := []) (M' := M1) rfl c_4 ?_
              refine Wp.path (k := 2) [] (C := []) (pc' := 142) (ls' := [some (.inr (.inr (5, 0))), some (.inl x1), some (.inl x2), some (.inl x3), some (.inl x4), some (.inl r), some (.inl x6), some (.inl b), some (.inl b_1), some (.inl b_2), some (.inl r)]) (st' := []) (M' := M1) rfl trivial ?_
              exact k_2 _ (by rw [if_neg (Int.not_lt.mpr c_3), if_pos c_4])
            · refine Wp.path (k := 1) [0] (C := [0 ≤ x5]) (pc' := 131) (ls' := [some (.inr (.inr (5, 0))), some (.inl x1), some (.inl x2), some (.inl x3), some (.inl x4), some (.inl x5), some (.inl x6), some (.inl b), some (.inl b_1), some (.inl b_2), some (.inl r)]) (st' := []) (M' := M1) rfl c_4 ?_
              refine Wp.path (k := 2) [] (C := []) (pc' := 135) (ls' := [some (.inr (.inr (5, 0))), some (.inl x1), some (.inl x2), some (.inl x3), some (.inl x4), some (.inl x5), some (.inl x6), some (.inl b), some (.inl b_1), some (.inl b_2), some (.inl r)]) (st' := [.inl x5, .inl r]) (M' := M1) rfl trivial ?_
              rcases Int.lt_or_le (r) (x5) with c_5 | c_5
              · refine Wp.path (k := 1) [0] (C := [r < x5]) (pc' := 138) (ls' := [some (.inr (.inr (5, 0))), some (.inl x1), some (.inl x2), some (.inl x3), some (.inl x4), some (.inl x5), some (.inl x6), some (.inl b), some (.inl b_1), some (.inl b_2), some (.inl r)]) (st' := []) (M' := M1) rfl c_5 ?_
                refine Wp.path (k := 2) [] (C := []) (pc' := 142) (ls' := [some (.inr (.inr (5, 0))), some (.inl x1), some (.inl x2), some (.inl x3), some (.inl x4), some (.inl r), some (.inl x6), some (.inl b), some (.inl b_1), some (.inl b_2), some (.inl r)]) (st' := []) (M' := M1) rfl trivial ?_
                exact k_2 _ (by rw [if_neg (Int.not_lt.mpr c_3), if_neg (Int.not_lt.mpr c_4), if_neg (Int.not_le.mpr c_5)])
              · refine Wp.path (k := 1) [1] (C := [x5 ≤ r]) (pc' := 142) (ls' := [some (.inr (.inr (5, 0))), some (.inl x1), some (.inl x2), some (.inl x3), some (.inl x4), some (.inl x5), some (.inl x6), some (.inl b), some (.inl b_1), some (.inl b_2), some (.inl r)]) (st' := []) (M' := M1) rfl c_5 ?_
                exact k_2 _ (by rw [if_neg (Int.not_lt.mpr c_3), if_neg (Int.not_lt.mpr c_4), if_pos c_5])
        clear h
        rcases Decidable.em (upV x6 = 0) with c_7 | c_7
        · refine Wp.path (k := 1) [1] (C := [upV x6 = 0]) (pc' := 93) (ls' := [some (.inr (.inr (5, 0))), some (.inl x1), some (.inl x2), some (.inl x3), some (.inl x4), some (.inl x5), some (.inl x6), some (.inl b), some (.inl b_1), o9, o10]) (st' := []) (M' := M) rfl c_7 ?_
          refine Wp.path (k := 3) [] (C := [inR (b + x2)]) (pc' := 97) (ls' := [some (.inr (.inr (5, 0))), some (.inl x1), some (.inl x2), some (.inl x3), some (.inl x4), some (.inl x5), some (.inl x6), some (.inl b), some (.inl b_1), o9, o10]) (st' := [.inl (b + x2)]) (M' := M) rfl (g6_0 c_7) ?_
          exact k_6 _ (by rw [if_pos c_7])
        · refine Wp.path (k := 1) [0] (C := [upV x6 ≠ 0]) (pc' := 86) (ls' := [some (.inr (.inr (5, 0))), some (.inl x1), some (.inl x2), some (.inl x3), some (.inl x4), some (.inl x5), some (.inl x6), some (.inl b), some (.inl b_1), o9, o10]) (st' := []) (M' := M) rfl c_7 ?_
          refine Wp.path (k := 4) [] (C := [inR (b - x2)]) (pc' := 97) (ls' := [some (.inr (.inr (5, 0))), some (.inl x1), some (.inl x2), some (.inl x3), some (.inl x4), some (.inl x5), some (.inl x6), some (.inl b), some (.inl b_1), o9, o10]) (st' := [.inl (b - x2)]) (M' := M) rfl (g6_1 c_7) ?_
          exact k_6 _ (by rw [if_neg c_7])
      clear h
      rcases Decidable.em (levV x6 = 0) with c_9 | c_9
      · refine Wp.path (k := 1) [1] (C := [levV x6 = 0]) (pc' := 74) (ls' := [some (.inr (.inr (5, 0))), some (.inl x1), some (.inl x2), some (.inl x3), some (.inl x4), some (.inl x5), some (.inl x6), some (.inl b), o8, o9, o10]) (st' := []) (M' := M) rfl c_9 ?_
        refine Wp.path (k := 1) [] (C := []) (pc' := 76) (ls' := [some (.inr (.inr (5, 0))), some (.inl x1), some (.inl x2), some (.inl x3), some (.inl x4), some (.inl x5), some (.inl x6), some (.inl b), o8, o9, o10]) (st' := [.inl x4]) (M' := M) rfl trivial ?_
        exact k_8 _ (by rw [if_pos c_9])
      · refine Wp.path (k := 1) [0] (C := [levV x6 ≠ 0]) (pc' := 70) (ls' := [some (.inr (.inr (5, 0))), some (.inl x1), some (.inl x2), some (.inl x3), some (.inl x4), some (.inl x5), some (.inl x6), some (.inl b), o8, o9, o10]) (st' := []) (M' := M) rfl c_9 ?_
        refine Wp.path (k := 2) [] (C := []) (pc' := 76) (ls' := [some (.inr (.inr (5, 0))), some (.inl x1), some (.inl x2), some (.inl x3), some (.inl x4), some (.inl x5), some (.inl x6), some (.inl b), o8, o9, o10]) (st' := [.inl x3]) (M' := M) rfl trivial ?_
        exact k_8 _ (by rw [if_neg c_9])
    clear h
    rcases Decidable.em (levV x6 = 0) with c_11 | c_11
    · refine Wp.path (k := 1) [1] (C := [levV x6 = 0]) (pc' := 59) (ls' := [some (.inr (.inr (5, 0))), some (.inl x1), some (.inl x2), some (.inl x3), some (.inl x4), some (.inl x5), some (.inl x6), o7, o8, o9, o10]) (st' := []) (M' := M) rfl c_11 ?_
      refine Wp.path (k := 1) [] (C := []) (pc' := 60) (ls' := [some (.inr (.inr (5, 0))), some (.inl x1), some (.inl x2), some (.inl x3), some (.inl x4), some (.inl x5), some (.inl x6), o7, o8, o9, o10]) (st' := [.inl x3]) (M' := M) rfl trivial ?_
      exact k_10 _ (by rw [if_pos c_11])
    · refine Wp.path (k := 1) [0] (C := [levV x6 ≠ 0]) (pc' := 54) (ls' := [some (.inr (.inr (5, 0))), some (.inl x1), some (.inl x2), some (.inl x3), some (.inl x4), some (.inl x5), some (.inl x6), o7, o8, o9, o10]) (st' := []) (M' := M) rfl c_11 ?_
      refine Wp.path (k := 2) [] (C := []) (pc' := 60) (ls' := [some (.inr (.inr (5, 0))), some (.inl x1), some (.inl x2), some (.inl x3), some (.inl x4), some (.inl x5), some (.inl x6), o7, o8, o9, o10]) (st' := [.inl x4]) (M' := M) rfl trivial ?_
      exact k_10 _ (by rw [if_neg c_11])
/-- X5_findFaces -/
def E_516 (M : Mm) (Q : Mm → Prop) : Prop := Ev 4 516 [.inr (.inr (5, 0))] M (rV Q)
theorem m_516 {M : Mm} {Q Q1 : Mm → Prop} (h : E_516 M Q) (k : (∀ M1, Q M1 → Q1 M1)) : E_516 M Q1 := Ev.mono h (fun v M1 h => ⟨h.1, k _ h.2⟩)
def L_516_2 (x1 : Int) (M : Mm) (Q : Mm → Prop) : Prop := Wp 4 516 2 [some (.inr (.inr (5, 0))), some (.inl x1)] [] M (rV Q)
theorem s_516_0 {M : Mm} {Q : Mm → Prop} (h : (L_516_2 0 M Q)) : E_516 M Q := by
  show Wp 4 516 0 [some (.inr (.inr (5, 0))), none] [] M (rV Q)
  refine Wp.path (k := 2) [] (C := []) (pc' := 2) (ls' := [some (.inr (.inr (5, 0))), some (.inl 0)]) (st' := []) (M' := M) rfl trivial ?_
  exact h
theorem s_516_2 {x1 : Int} {M : Mm} {Q : Mm → Prop} (h : ((144 ≤ x1 → (Q M)) ∧ (x1 < 144 → ((atN 144 (M.1 608 0) x1 ≠ 0 → (E_517 x1 M (fun (r : Int) (M1_1 : Mm) => ((0 ≤ x1 ∧ x1 < 144)) ∧ (∀ M1_2 : Mm, M1_2 = setI M1_1 609 0 x1.toNat r → (((-2147483648 ≤ x1 + 1 ∧ x1 + 1 ≤ 2147483647)) ∧ (L_516_2 (x1 + 1) M1_2 Q)))))) ∧ (atN 144 (M.1 608 0) x1 = 0 → (((0 ≤ x1 ∧ x1 < 144)) ∧ (∀ M1 : Mm, M1 = setI M 609 0 x1.toNat (-1) → (((-2147483648 ≤ x1 + 1 ∧ x1 + 1 ≤ 2147483647)) ∧ (L_516_2 (x1 + 1) M1 Q))))))))) : L_516_2 x1 M Q := by
  show Wp 4 516 2 [some (.inr (.inr (5, 0))), some (.inl x1)] [] M (rV Q)
  refine Wp.path (k := 4) [] (C := []) (pc' := 8) (ls' := [some (.inr (.inr (5, 0))), some (.inl x1)]) (st' := [.inl 144, .inl x1]) (M' := M) rfl trivial ?_
  rcases Int.lt_or_le (x1) (144) with c_1 | c_1
  · replace h := h.2 c_1
    refine Wp.path (k := 1) [0] (C := [x1 < 144]) (pc' := 11) (ls' := [some (.inr (.inr (5, 0))), some (.inl x1)]) (st' := []) (M' := M) rfl c_1 ?_
    refine Wp.path (k := 6) [] (C := []) (pc' := 21) (ls' := [some (.inr (.inr (5, 0))), some (.inl x1)]) (st' := [.inl x1, .inr (.inr (608, 0)), .inl x1, .inr (.inr (609, 0))]) (M' := M) rfl trivial ?_
    refine Wp.call (at_608) rfl rfl (by decide) ?_
    rintro v_ M_ ⟨eM_, ev_⟩
    rw [eM_, ev_]
    clear eM_ ev_ v_ M_
    show Wp 4 516 24 [some (.inr (.inr (5, 0))), some (.inl x1)] [.inl (atN 144 (M.1 608 0) x1), .inl x1, .inr (.inr (609, 0))] M (rV Q)
    rcases Decidable.em (atN 144 (M.1 608 0) x1 = 0) with c_2 | c_2
    · replace h := h.2 c_2
      refine Wp.path (k := 1) [0] (C := [atN 144 (M.1 608 0) x1 = 0]) (pc' := 27) (ls' := [some (.inr (.inr (5, 0))), some (.inl x1)]) (st' := [.inl x1, .inr (.inr (609, 0))]) (M' := M) rfl c_2 ?_
      refine Wp.path (k := 3) [] (C := [0 ≤ x1 ∧ x1 < 144]) (pc' := 37) (ls' := [some (.inr (.inr (5, 0))), some (.inl x1)]) (st' := []) (M' := setI M 609 0 x1.toNat (-1)) rfl h.1 ?_
      replace h := h.2
      refine Bd (P := fun M1 : Mm => Wp 4 516 37 [some (.inr (.inr (5, 0))), some (.inl x1)] [] M1 (rV Q)) ?_
      intro M1 e_M1
      replace h := h M1 e_M1
      refine Wp.path (k := 2) [] (C := [inR (x1 + 1)]) (pc' := 2) (ls' := [some (.inr (.inr (5, 0))), some (.inl (x1 + 1))]) (st' := []) (M' := M1) rfl h.1 ?_
      replace h := h.2
      exact h
    · replace h := h.1 c_2
      refine Wp.path (k := 1) [1] (C := [atN 144 (M.1 608 0) x1 ≠ 0]) (pc' := 31) (ls' := [some (.inr (.inr (5, 0))), some (.inl x1)]) (st' := [.inl x1, .inr (.inr (609, 0))]) (M' := M) rfl c_2 ?_
      refine Wp.path (k := 2) [] (C := []) (pc' := 33) (ls' := [some (.inr (.inr (5, 0))), some (.inl x1)]) (st' := [.inl x1, .inr (.inr (5, 0)), .inl x1, .inr (.inr (609, 0))]) (M' := M) rfl trivial ?_
      refine Wp.call h rfl rfl (by decide) ?_
      rintro _ M1_1 ⟨r, rfl, h⟩
      show Wp 4 516 36 [some (.inr (.inr (5, 0))), some (.inl x1)] [.inl r, .inl x1, .inr (.inr (609, 0))] M1_1 (rV Q)
      refine Wp.path (k := 1) [] (C := [0 ≤ x1 ∧ x1 < 144]) (pc' := 37) (ls' := [some (.inr (.inr (5, 0))), some (.inl x1)]) (st' := []) (M' := setI M1_1 609 0 x1.toNat r) rfl h.1 ?_
      replace h := h.2
      refine Bd (P := fun M1_2 : Mm => Wp 4 516 37 [some (.inr (.inr (5, 0))), some (.inl x1)] [] M1_2 (rV Q)) ?_
      intro M1_2 e_M1_2
      replace h := h M1_2 e_M1_2
      refine Wp.path (k := 2) [] (C := [inR (x1 + 1)]) (pc' := 2) (ls' := [some (.inr (.inr (5, 0))), some (.inl (x1 + 1))]) (st' := []) (M' := M1_2) rfl h.1 ?_
      replace h := h.2
      exact h
  · replace h := h.1 c_1
    refine Wp.path (k := 1) [1] (C := [144 ≤ x1]) (pc' := 43) (ls' := [some (.inr (.inr (5, 0))), some (.inl x1)]) (st' := []) (M' := M) rfl c_1 ?_
    exact Wp.ret rfl ⟨rfl, h⟩
/-- X7_pushChildren -/
def E_702 (i1 : Nat) (x2 : Int) (x3 : Int) (x4 : Int) (M : Mm) (Q : Mm → Prop) : Prop := Ev 2 702 [.inr (.inr (7, 0)), .inr (.inr (3, i1)), .inl x2, .inl x3, .inl x4] M (rV Q)
theorem m_702 {i1 : Nat} {x2 : Int} {x3 : Int} {x4 : Int} {M : Mm} {Q Q1 : Mm → Prop} (h : E_702 i1 x2 x3 x4 M Q) (k : (∀ M1, Q M1 → Q1 M1)) : E_702 i1 x2 x3 x4 M Q1 := Ev.mono h (fun v M1 h => ⟨h.1, k _ h.2⟩)
def L_702_8 (i1 : Nat) (x2 : Int) (x3 : Int) (x4 : Int) (x5 : Int) (M : Mm) (Q : Mm → Prop) : Prop := Wp 2 702 8 [some (.inr (.inr (7, 0))), some (.inr (.inr (3, i1))), some (.inl x2), some (.inl x3), some (.inl x4), some (.inl x5)] [] M (rV Q)
theorem s_702_0 {i1 : Nat} {x2 : Int} {x3 : Int} {x4 : Int} {M : Mm} {Q : Mm → Prop} (h : ((-2147483648 ≤ (M.1 3 i1 10) - 1 ∧ (M.1 3 i1 10) - 1 ≤ 2147483647)) ∧ (∀ x5 : Int, x5 = (M.1 3 i1 10) - 1 → (L_702_8 i1 x2 x3 x4 x5 M Q))) : E_702 i1 x2 x3 x4 M Q := by
  show Wp 2 702 0 [some (.inr (.inr (7, 0))), some (.inr (.inr (3, i1))), some (.inl x2), some (.inl x3), some (.inl x4), none] [] M (rV Q)
  refine Wp.path (k := 5) [] (C := [inR ((M.1 3 i1 10) - 1)]) (pc' := 8) (ls' := [some (.inr (.inr (7, 0))), some (.inr (.inr (3, i1))), some (.inl x2), some (.inl x3), some (.inl x4), some (.inl ((M.1 3 i1 10) - 1))]) (st' := []) (M' := M) rfl h.1 ?_
  replace h := h.2
  refine Bd (P := fun x5 : Int => Wp 2 702 8 [some (.inr (.inr (7, 0))), some (.inr (.inr (3, i1))), some (.inl x2), some (.inl x3), some (.inl x4), some (.inl x5)] [] M (rV Q)) ?_
  intro x5 e_x5
  replace h := h x5 e_x5
  exact h
theorem s_702_8 {i1 : Nat} {x2 : Int} {x3 : Int} {x4 : Int} {x5 : Int} {M : Mm} {Q : Mm → Prop} (h : ((x5 < 0 → (Q M)) ∧ (0 ≤ x5 → ((parV (M.1 3 i1 10) (M.1 407 i1) x5 ≠ x3 → (((-2147483648 ≤ x5 + (-1) ∧ x5 + (-1) ≤ 2147483647)) ∧ (L_702_8 i1 x2 x3 x4 (x5 + (-1)) M Q))) ∧ (parV (M.1 3 i1 10) (M.1 407 i1) x5 = x3 → (∀ M1 : Mm, M1 = setA M 806 0 (putN 864 (M.1 806 0) (M.1 7 0 9) x2) → (∀ M1_1 : Mm, M1_1 = setA M1 807 0 (putN 864 (M1.1 807 0) (M1.1 7 0 9) x5) → (∀ M1_2 : Mm, M1_2 = setA M1_1 808 0 (putN 864 (M1_1.1 808 0) (M1_1.1 7 0 9) x4) → (((-2147483648 ≤ (M1_2.1 7 0 9) + 1 ∧ (M1_2.1 7 0 9) + 1 ≤ 2147483647)) ∧ (∀ M1_3 : Mm, M1_3 = setI M1_2 7 0 9 ((M1_2.1 7 0 9) + 1) → (((-2147483648 ≤ x5 + (-1) ∧ x5 + (-1) ≤ 2147483647)) ∧ (L_702_8 i1 x2 x3 x4 (x5 + (-1)) M1_3 Q)))))))))))) : L_702_8 i1 x2 x3 x4 x5 M Q := by
  show Wp 2 702 8 [some (.inr (.inr (7, 0))), some (.inr (.inr (3, i1))), some (.inl x2), some (.inl x3), some (.inl x4), some (.inl x5)] [] M (rV Q)
  refine Wp.path (k := 1) [] (C := []) (pc' := 10) (ls' := [some (.inr (.inr (7, 0))), some (.inr (.inr (3, i1))), some (.inl x2), some (.inl x3), some (.inl x4), some (.inl x5)]) (st' := [.inl x5]) (M' := M) rfl trivial ?_
  rcases Int.lt_or_le (x5) (0) with c_1 | c_1
  · replace h := h.1 c_1
    refine Wp.path (k := 1) [1] (C := [x5 < 0]) (pc' := 77) (ls' := [some (.inr (.inr (7, 0))), some (.inr (.inr (3, i1))), some (.inl x2), some (.inl x3), some (.inl x4), some (.inl x5)]) (st' := []) (M' := M) rfl c_1 ?_
    exact Wp.ret rfl ⟨rfl, h⟩
  · replace h := h.2 c_1
    refine Wp.path (k := 1) [0] (C := [0 ≤ x5]) (pc' := 13) (ls' := [some (.inr (.inr (7, 0))), some (.inr (.inr (3, i1))), some (.inl x2), some (.inl x3), some (.inl x4), some (.inl x5)]) (st' := []) (M' := M) rfl c_1 ?_
    refine Wp.path (k := 2) [] (C := []) (pc' := 16) (ls' := [some (.inr (.inr (7, 0))), some (.inr (.inr (3, i1))), some (.inl x2), some (.inl x3), some (.inl x4), some (.inl x5)]) (st' := [.inl x5, .inr (.inr (3, i1))]) (M' := M) rfl trivial ?_
    refine Wp.call (e312) rfl rfl (by decide) ?_
    rintro v_ M_ ⟨eM_, ev_⟩
    rw [eM_, ev_]
    clear eM_ ev_ v_ M_
    show Wp 2 702 19 [some (.inr (.inr (7, 0))), some (.inr (.inr (3, i1))), some (.inl x2), some (.inl x3), some (.inl x4), some (.inl x5)] [.inl (parV (M.1 3 i1 10) (M.1 407 i1) x5)] M (rV Q)
    refine Wp.path (k := 1) [] (C := []) (pc' := 20) (ls' := [some (.inr (.inr (7, 0))), some (.inr (.inr (3, i1))), some (.inl x2), some (.inl x3), some (.inl x4), some (.inl x5)]) (st' := [.inl x3, .inl (parV (M.1 3 i1 10) (M.1 407 i1) x5)]) (M' := M) rfl trivial ?_
    rcases Decidable.em (parV (M.1 3 i1 10) (M.1 407 i1) x5 = x3) with c_2 | c_2
    · replace h := h.2 c_2
      refine Wp.path (k := 1) [0] (C := [parV (M.1 3 i1 10) (M.1 407 i1) x5 = x3]) (pc' := 23) (ls' := [some (.inr (.inr (7, 0))), some (.inr (.inr (3, i1))), some (.inl x2), some (.inl x3), some (.inl x4), some (.inl x5)]) (st' := []) (M' := M) rfl c_2 ?_
      refine Wp.path (k := 5) [] (C := []) (pc' := 32) (ls' := [some (.inr (.inr (7, 0))), some (.inr (.inr (3, i1))), some (.inl x2), some (.inl x3), some (.inl x4), some (.inl x5)]) (st' := [.inl x2, .inl (M.1 7 0 9), .inr (.inr (806, 0))]) (M' := M) rfl trivial ?_
      refine Wp.call (put_806) rfl rfl (by decide) ?_
      rintro v_ M_ ⟨eM_, ev_⟩
      rw [eM_, ev_]
      clear eM_ ev_ v_ M_
      refine Bd (e := setA M 806 0 (putN 864 (M.1 806 0) (M.1 7 0 9) x2)) (P := fun M1 : Mm => Wp 2 702 35 [some (.inr (.inr (7, 0))), some (.inr (.inr (3, i1))), some (.inl x2), some (.inl x3), some (.inl x4), some (.inl x5)] [] M1 (rV Q)) ?_
      intro M1 e_M1
      replace h := h M1 e_M1
      refine Wp.path (k := 5) [] (C := []) (pc' := 45) (ls' := [some (.inr (.inr (7, 0))), some (.inr (.inr (3, i1))), some (.inl x2), some (.inl x3), some (.inl x4), some (.inl x5)]) (st' := [.inl x5, .inl (M1.1 7 0 9), .inr (.inr (807, 0))]) (M' := M1) rfl trivial ?_
      refine Wp.call (put_807) rfl rfl (by decide) ?_
      rintro v_ M_ ⟨eM_, ev_⟩
      rw [eM_, ev_]
      clear eM_ ev_ v_ M_
      refine Bd (e := setA M1 807 0 (putN 864 (M1.1 807 0) (M1.1 7 0 9) x5)) (P := fun M1_1 : Mm => Wp 2 702 48 [some (.inr (.inr (7, 0))), some (.inr (.inr (3, i1))), some (.inl x2), some (.inl x3), some (.inl x4), some (.inl x5)] [] M1_1 (rV Q)) ?_
      intro M1_1 e_M1_1
      replace h := h M1_1 e_M1_1
      refine Wp.path (k := 5) [] (C := []) (pc' := 58) (ls' := [some (.inr (.inr (7, 0))), some (.inr (.inr (3, i1))), some (.inl x2), some (.inl x3), some (.inl x4), some (.inl x5)]) (st' := [.inl x4, .inl (M1_1.1 7 0 9), .inr (.inr (808, 0))]) (M' := M1_1) rfl trivial ?_
      refine Wp.call (put_808) rfl rfl (by decide) ?_
      rintro v_ M_ ⟨eM_, ev_⟩
      rw [eM_, ev_]
      clear eM_ ev_ v_ M_
      refine Bd (e := setA M1_1 808 0 (putN 864 (M1_1.1 808 0) (M1_1.1 7 0 9) x4)) (P := fun M1_2 : Mm => Wp 2 702 61 [some (.inr (.inr (7, 0))), some (.inr (.inr (3, i1))), some (.inl x2), some (.inl x3), some (.inl x4), some (.inl x5)] [] M1_2 (rV Q)) ?_
      intro M1_2 e_M1_2
      replace h := h M1_2 e_M1_2
      refine Wp.path (k := 6) [] (C := [inR ((M1_2.1 7 0 9) + 1)]) (pc' := 71) (ls' := [some (.inr (.inr (7, 0))), some (.inr (.inr (3, i1))), some (.inl x2), some (.inl x3), some (.inl x4), some (.inl x5)]) (st' := []) (M' := setI M1_2 7 0 9 ((M1_2.1 7 0 9) + 1)) rfl h.1 ?_
      replace h := h.2
      refine Bd (P := fun M1_3 : Mm => Wp 2 702 71 [some (.inr (.inr (7, 0))), some (.inr (.inr (3, i1))), some (.inl x2), some (.inl x3), some (.inl x4), some (.inl x5)] [] M1_3 (rV Q)) ?_
      intro M1_3 e_M1_3
      replace h := h M1_3 e_M1_3
      refine Wp.path (k := 2) [] (C := [inR (x5 + (-1))]) (pc' := 8) (ls' := [some (.inr (.inr (7, 0))), some (.inr (.inr (3, i1))), some (.inl x2), some (.inl x3), some (.inl x4), some (.inl (x5 + (-1)))]) (st' := []) (M' := M1_3) rfl h.1 ?_
      replace h := h.2
      exact h
    · replace h := h.1 c_2
      refine Wp.path (k := 1) [1] (C := [parV (M.1 3 i1 10) (M.1 407 i1) x5 ≠ x3]) (pc' := 71) (ls' := [some (.inr (.inr (7, 0))), some (.inr (.inr (3, i1))), some (.inl x2), some (.inl x3), some (.inl x4), some (.inl x5)]) (st' := []) (M' := M) rfl c_2 ?_
      refine Wp.path (k := 2) [] (C := [inR (x5 + (-1))]) (pc' := 8) (ls' := [some (.inr (.inr (7, 0))), some (.inr (.inr (3, i1))), some (.inl x2), some (.inl x3), some (.inl x4), some (.inl (x5 + (-1)))]) (st' := []) (M' := M) rfl h.1 ?_
      replace h := h.2
      exact h
/-- X7_growBranch -/
def E_703 (x2 : Int) (x3 : Int) (x4 : Int) (M : Mm) (Q : Mm → Prop) : Prop := Ev 3 703 [.inr (.inr (7, 0)), .inr (.inr (5, 0)), .inl x2, .inl x3, .inl x4] M (rV Q)
theorem m_703 {x2 : Int} {x3 : Int} {x4 : Int} {M : Mm} {Q Q1 : Mm → Prop} (h : E_703 x2 x3 x4 M Q) (k : (∀ M1, Q M1 → Q1 M1)) : E_703 x2 x3 x4 M Q1 := Ev.mono h (fun v M1 h => ⟨h.1, k _ h.2⟩)
def L_703_9 (x2 : Int) (x3 : Int) (x4 : Int) (x5 : Int) (x6 : Int) (x7 : Int) (M : Mm) (Q : Mm → Prop) : Prop := Wp 3 703 9 [some (.inr (.inr (7, 0))), some (.inr (.inr (5, 0))), some (.inl x2), some (.inl x3), some (.inl x4), some (.inl x5), some (.inl x6), some (.inl x7)] [] M (rV Q)
theorem s_703_0 {x2 : Int} {x3 : Int} {x4 : Int} {M : Mm} {Q : Mm → Prop} (h : (L_703_9 x2 x3 x4 x2 x3 0 M Q)) : E_703 x2 x3 x4 M Q := by
  show Wp 3 703 0 [some (.inr (.inr (7, 0))), some (.inr (.inr (5, 0))), some (.inl x2), some (.inl x3), some (.inl x4), none, none, none] [] M (rV Q)
  refine Wp.path (k := 6) [] (C := []) (pc' := 9) (ls' := [some (.inr (.inr (7, 0))), some (.inr (.inr (5, 0))), some (.inl x2), some (.inl x3), some (.inl x4), some (.inl x2), some (.inl x3), some (.inl 0)]) (st' := []) (M' := M) rfl trivial ?_
  exact h
theorem s_703_9 {x2 : Int} {x3 : Int} {x4 : Int} {x5 : Int} {x6 : Int} {x7 : Int} {M : Mm} {Q : Mm → Prop} (h : ((12 ≤ x7 → (∀ M1_8 : Mm, M1_8 = setA M 800 0 (putN 864 (M.1 800 0) (M.1 7 0 10) x2) → (∀ M1_9 : Mm, M1_9 = setA M1_8 801 0 (putN 864 (M1_8.1 801 0) (M1_8.1 7 0 10) x5) → (∀ M1_10 : Mm, M1_10 = setA M1_9 802 0 (putN 864 (M1_9.1 802 0) (M1_9.1 7 0 10) x3) → (∀ M1_11 : Mm, M1_11 = setA M1_10 803 0 (putN 864 (M1_10.1 803 0) (M1_10.1 7 0 10) x4) → (∀ M1_12 : Mm, M1_12 = setA M1_11 804 0 (putN 864 (M1_11.1 804 0) (M1_11.1 7 0 10) (atN 72 (M1_11.1 408 (phV (M1_11.1 5 0 11) x5)) x6)) → (((-2147483648 ≤ x5 + 1 ∧ x5 + 1 ≤ 2147483647)) ∧ (((-2147483648 ≤ x5 + 1 ∧ x5 + 1 ≤ 2147483647)) ∧ (E_702 (phV (M1_12.1 5 0 11) (x5 + 1)) (x5 + 1) x6 (M1_12.1 7 0 10) M1_12 (fun M1_13 : Mm => ((-2147483648 ≤ (M1_13.1 7 0 10) + 1 ∧ (M1_13.1 7 0 10) + 1 ≤ 2147483647)) ∧ (∀ M1_14 : Mm, M1_14 = setI M1_13 7 0 10 ((M1_13.1 7 0 10) + 1) → (Q M1_14)))))))))))) ∧ (x7 < 12 → ((atN 72 (M.1 408 (phV (M.1 5 0 11) x5)) x6 ≠ 1 → (∀ M1_1 : Mm, M1_1 = setA M 800 0 (putN 864 (M.1 800 0) (M.1 7 0 10) x2) → (∀ M1_2 : Mm, M1_2 = setA M1_1 801 0 (putN 864 (M1_1.1 801 0) (M1_1.1 7 0 10) x5) → (∀ M1_3 : Mm, M1_3 = setA M1_2 802 0 (putN 864 (M1_2.1 802 0) (M1_2.1 7 0 10) x3) → (∀ M1_4 : Mm, M1_4 = setA M1_3 803 0 (putN 864 (M1_3.1 803 0) (M1_3.1 7 0 10) x4) → (∀ M1_5 : Mm, M1_5 = setA M1_4 804 0 (putN 864 (M1_4.1 804 0) (M1_4.1 7 0 10) (atN 72 (M1_4.1 408 (phV (M1_4.1 5 0 11) x5)) x6)) → (((-2147483648 ≤ x5 + 1 ∧ x5 + 1 ≤ 2147483647)) ∧ (((-2147483648 ≤ x5 + 1 ∧ x5 + 1 ≤ 2147483647)) ∧ (E_702 (phV (M1_5.1 5 0 11) (x5 + 1)) (x5 + 1) x6 (M1_5.1 7 0 10) M1_5 (fun M1_6 : Mm => ((-2147483648 ≤ (M1_6.1 7 0 10) + 1 ∧ (M1_6.1 7 0 10) + 1 ≤ 2147483647)) ∧ (∀ M1_7 : Mm, M1_7 = setI M1_6 7 0 10 ((M1_6.1 7 0 10) + 1) → (Q M1_7)))))))))))) ∧ (atN 72 (M.1 408 (phV (M.1 5 0 11) x5)) x6 = 1 → (((-2147483648 ≤ x5 + 1 ∧ x5 + 1 ≤ 2147483647)) ∧ (E_314 (phV (M.1 5 0 11) (x5 + 1)) x6 M (fun (r : Int) (M1 : Mm) => ((-2147483648 ≤ x7 + 1 ∧ x7 + 1 ≤ 2147483647)) ∧ (L_703_9 x2 x3 x4 (x5 + 1) r (x7 + 1) M1 Q))))))))) : L_703_9 x2 x3 x4 x5 x6 x7 M Q := by
  show Wp 3 703 9 [some (.inr (.inr (7, 0))), some (.inr (.inr (5, 0))), some (.inl x2), some (.inl x3), some (.inl x4), some (.inl x5), some (.inl x6), some (.inl x7)] [] M (rV Q)
  refine Wp.path (k := 2) [] (C := []) (pc' := 13) (ls' := [some (.inr (.inr (7, 0))), some (.inr (.inr (5, 0))), some (.inl x2), some (.inl x3), some (.inl x4), some (.inl x5), some (.inl x6), some (.inl x7)]) (st' := [.inl 12, .inl x7]) (M' := M) rfl trivial ?_
  rcases Int.lt_or_le (x7) (12) with c_1 | c_1
  · replace h := h.2 c_1
    refine Wp.path (k := 1) [0] (C := [x7 < 12]) (pc' := 16) (ls' := [some (.inr (.inr (7, 0))), some (.inr (.inr (5, 0))), some (.inl x2), some (.inl x3), some (.inl x4), some (.inl x5), some (.inl x6), some (.inl x7)]) (st' := []) (M' := M) rfl c_1 ?_
    refine Wp.path (k := 2) [] (C := []) (pc' := 19) (ls' := [some (.inr (.inr (7, 0))), some (.inr (.inr (5, 0))), some (.inl x2), some (.inl x3), some (.inl x4), some (.inl x5), some (.inl x6), some (.inl x7)]) (st' := [.inl x5, .inr (.inr (5, 0))]) (M' := M) rfl trivial ?_
    refine Wp.call (e503) rfl rfl (by decide) ?_
    rintro v_ M_ ⟨eM_, ev_⟩
    rw [eM_, ev_]
    clear eM_ ev_ v_ M_
    show Wp 3 703 22 [some (.inr (.inr (7, 0))), some (.inr (.inr (5, 0))), some (.inl x2), some (.inl x3), some (.inl x4), some (.inl x5), some (.inl x6), some (.inl x7)] [.inr (.inr (3, (phV (M.1 5 0 11) x5)))] M (rV Q)
    refine Wp.path (k := 1) [] (C := []) (pc' := 24) (ls' := [some (.inr (.inr (7, 0))), some (.inr (.inr (5, 0))), some (.inl x2), some (.inl x3), some (.inl x4), some (.inl x5), some (.inl x6), some (.inl x7)]) (st' := [.inl x6, .inr (.inr (3, (phV (M.1 5 0 11) x5)))]) (M' := M) rfl trivial ?_
    refine Wp.call (e313) rfl rfl (by decide) ?_
    rintro v_ M_ ⟨eM_, ev_⟩
    rw [eM_, ev_]
    clear eM_ ev_ v_ M_
    show Wp 3 703 27 [some (.inr (.inr (7, 0))), some (.inr (.inr (5, 0))), some (.inl x2), some (.inl x3), some (.inl x4), some (.inl x5), some (.inl x6), some (.inl x7)] [.inl (atN 72 (M.1 408 (phV (M.1 5 0 11) x5)) x6)] M (rV Q)
    refine Wp.path (k := 1) [] (C := []) (pc' := 28) (ls' := [some (.inr (.inr (7, 0))), some (.inr (.inr (5, 0))), some (.inl x2), some (.inl x3), some (.inl x4), some (.inl x5), some (.inl x6), some (.inl x7)]) (st' := [.inl 1, .inl (atN 72 (M.1 408 (phV (M.1 5 0 11) x5)) x6)]) (M' := M) rfl trivial ?_
    rcases Decidable.em (atN 72 (M.1 408 (phV (M.1 5 0 11) x5)) x6 = 1) with c_2 | c_2
    · replace h := h.2 c_2
      refine Wp.path (k := 1) [0] (C := [atN 72 (M.1 408 (phV (M.1 5 0 11) x5)) x6 = 1]) (pc' := 31) (ls' := [some (.inr (.inr (7, 0))), some (.inr (.inr (5, 0))), some (.inl x2), some (.inl x3), some (.inl x4), some (.inl x5), some (.inl x6), some (.inl x7)]) (st' := []) (M' := M) rfl c_2 ?_
      refine Wp.path (k := 3) [] (C := [inR (x5 + 1)]) (pc' := 37) (ls' := [some (.inr (.inr (7, 0))), some (.inr (.inr (5, 0))), some (.inl x2), some (.inl x3), some (.inl x4), some (.inl (x5 + 1)), some (.inl x6), some (.inl x7)]) (st' := [.inl (x5 + 1), .inr (.inr (5, 0))]) (M' := M) rfl h.1 ?_
      replace h := h.2
      refine Wp.call (e503) rfl rfl (by decide) ?_
      rintro v_ M_ ⟨eM_, ev_⟩
      rw [eM_, ev_]
      clear eM_ ev_ v_ M_
      show Wp 3 703 40 [some (.inr (.inr (7, 0))), some (.inr (.inr (5, 0))), some (.inl x2), some (.inl x3), some (.inl x4), some (.inl (x5 + 1)), some (.inl x6), some (.inl x7)] [.inr (.inr (3, (phV (M.1 5 0 11) (x5 + 1))))] M (rV Q)
      refine Wp.path (k := 1) [] (C := []) (pc' := 42) (ls' := [some (.inr (.inr (7, 0))), some (.inr (.inr (5, 0))), some (.inl x2), some (.inl x3), some (.inl x4), some (.inl (x5 + 1)), some (.inl x6), some (.inl x7)]) (st' := [.inl x6, .inr (.inr (3, (phV (M.1 5 0 11) (x5 + 1))))]) (M' := M) rfl trivial ?_
      refine Wp.call h rfl rfl (by decide) ?_
      rintro _ M1 ⟨r, rfl, h⟩
      show Wp 3 703 45 [some (.inr (.inr (7, 0))), some (.inr (.inr (5, 0))), some (.inl x2), some (.inl x3), some (.inl x4), some (.inl (x5 + 1)), some (.inl x6), some (.inl x7)] [.inl r] M1 (rV Q)
      refine Wp.path (k := 3) [] (C := [inR (x7 + 1)]) (pc' := 9) (ls' := [some (.inr (.inr (7, 0))), some (.inr (.inr (5, 0))), some (.inl x2), some (.inl x3), some (.inl x4), some (.inl (x5 + 1)), some (.inl r), some (.inl (x7 + 1))]) (st' := []) (M' := M1) rfl h.1 ?_
      replace h := h.2
      exact h
    · replace h := h.1 c_2
      refine Wp.path (k := 1) [1] (C := [atN 72 (M.1 408 (phV (M.1 5 0 11) x5)) x6 ≠ 1]) (pc' := 53) (ls' := [some (.inr (.inr (7, 0))), some (.inr (.inr (5, 0))), some (.inl x2), some (.inl x3), some (.inl x4), some (.inl x5), some (.inl x6), some (.inl x7)]) (st' := []) (M' := M) rfl c_2 ?_
      refine Wp.path (k := 5) [] (C := []) (pc' := 62) (ls' := [some (.inr (.inr (7, 0))), some (.inr (.inr (5, 0))), some (.inl x2), some (.inl x3), some (.inl x4), some (.inl x5), some (.inl x6), some (.inl x7)]) (st' := [.inl x2, .inl (M.1 7 0 10), .inr (.inr (800, 0))]) (M' := M) rfl trivial ?_
      refine Wp.call (put_800) rfl rfl (by decide) ?_
      rintro v_ M_ ⟨eM_, ev_⟩
      rw [eM_, ev_]
      clear eM_ ev_ v_ M_
      refine Bd (e := setA M 800 0 (putN 864 (M.1 800 0) (M.1 7 0 10) x2)) (P := fun M1_1 : Mm => Wp 3 703 65 [some (.inr (.inr (7, 0))), some (.inr (.inr (5, 0))), some (.inl x2), some (.inl x3), some (.inl x4), some (.inl x5), some (.inl x6), some (.inl x7)] [] M1_1 (rV Q)) ?_
      intro M1_1 e_M1_1
      replace h := h M1_1 e_M1_1
      refine Wp.path (k := 5) [] (C := []) (pc' := 75) (ls' := [some (.inr (.inr (7, 0))), some (.inr (.inr (5, 0))), some (.inl x2), some (.inl x3), some (.inl x4), some (.inl x5), some (.inl x6), some (.inl x7)]) (st' := [.inl x5, .inl (M1_1.1 7 0 10), .inr (.inr (801, 0))]) (M' := M1_1) rfl trivial ?_
      refine Wp.call (put_801) rfl rfl (by decide) ?_
      rintro v_ M_ ⟨eM_, ev_⟩
      rw [eM_, ev_]
      clear eM_ ev_ v_ M_
      refine Bd (e := setA M1_1 801 0 (putN 864 (M1_1.1 801 0) (M1_1.1 7 0 10) x5)) (P := fun M1_2 : Mm => Wp 3 703 78 [some (.inr (.inr (7, 0))), some (.inr (.inr (5, 0))), some (.inl x2), some (.inl x3), some (.inl x4), some (.inl x5), some (.inl x6), some (.inl x7)] [] M1_2 (rV Q)) ?_
      intro M1_2 e_M1_2
      replace h := h M1_2 e_M1_2
      refine Wp.path (k := 5) [] (C := []) (pc' := 87) (ls' := [some (.inr (.inr (7, 0))), some (.inr (.inr (5, 0))), some (.inl x2), some (.inl x3), some (.inl x4), some (.inl x5), some (.inl x6), some (.inl x7)]) (st' := [.inl x3, .inl (M1_2.1 7 0 10), .inr (.inr (802, 0))]) (M' := M1_2) rfl trivial ?_
      refine Wp.call (put_802) rfl rfl (by decide) ?_
      rintro v_ M_ ⟨eM_, ev_⟩
      rw [eM_, ev_]
      clear eM_ ev_ v_ M_
      refine Bd (e := setA M1_2 802 0 (putN 864 (M1_2.1 802 0) (M1_2.1 7 0 10) x3)) (P := fun M1_3 : Mm => Wp 3 703 90 [some (.inr (.inr (7, 0))), some (.inr (.inr (5, 0))), some (.inl x2), some (.inl x3), some (.inl x4), some (.inl x5), some (.inl x6), some (.inl x7)] [] M1_3 (rV Q)) ?_
      intro M1_3 e_M1_3
      replace h := h M1_3 e_M1_3
      refine Wp.path (k := 5) [] (C := []) (pc' := 100) (ls' := [some (.inr (.inr (7, 0))), some (.inr (.inr (5, 0))), some (.inl x2), some (.inl x3), some (.inl x4), some (.inl x5), some (.inl x6), some (.inl x7)]) (st' := [.inl x4, .inl (M1_3.1 7 0 10), .inr (.inr (803, 0))]) (M' := M1_3) rfl trivial ?_
      refine Wp.call (put_803) rfl rfl (by decide) ?_
      rintro v_ M_ ⟨eM_, ev_⟩
      rw [eM_, ev_]
      clear eM_ ev_ v_ M_
      refine Bd (e := setA M1_3 803 0 (putN 864 (M1_3.1 803 0) (M1_3.1 7 0 10) x4)) (P := fun M1_4 : Mm => Wp 3 703 103 [some (.inr (.inr (7, 0))), some (.inr (.inr (5, 0))), some (.inl x2), some (.inl x3), some (.inl x4), some (.inl x5), some (.inl x6), some (.inl x7)] [] M1_4 (rV Q)) ?_
      intro M1_4 e_M1_4
      replace h := h M1_4 e_M1_4
      refine Wp.path (k := 6) [] (C := []) (pc' := 114) (ls' := [some (.inr (.inr (7, 0))), some (.inr (.inr (5, 0))), some (.inl x2), some (.inl x3), some (.inl x4), some (.inl x5), some (.inl x6), some (.inl x7)]) (st' := [.inl x5, .inr (.inr (5, 0)), .inl (M1_4.1 7 0 10), .inr (.inr (804, 0))]) (M' := M1_4) rfl trivial ?_
      refine Wp.call (e503) rfl rfl (by decide) ?_
      rintro v_ M_ ⟨eM_, ev_⟩
      rw [eM_, ev_]
      clear eM_ ev_ v_ M_
      show Wp 3 703 117 [some (.inr (.inr (7, 0))), some (.inr (.inr (5, 0))), some (.inl x2), some (.inl x3), some (.inl x4), some (.inl x5), some (.inl x6), some (.inl x7)] [.inr (.inr (3, (phV (M1_4.1 5 0 11) x5))), .inl (M1_4.1 7 0 10), .inr (.inr (804, 0))] M1_4 (rV Q)
      refine Wp.path (k := 1) [] (C := []) (pc' := 119) (ls' := [some (.inr (.inr (7, 0))), some (.inr (.inr (5, 0))), some (.inl x2), some (.inl x3), some (.inl x4), some (.inl x5), some (.inl x6), some (.inl x7)]) (st' := [.inl x6, .inr (.inr (3, (phV (M1_4.1 5 0 11) x5))), .inl (M1_4.1 7 0 10), .inr (.inr (804, 0))]) (M' := M1_4) rfl trivial ?_
      refine Wp.call (e313) rfl rfl (by decide) ?_
      rintro v_ M_ ⟨eM_, ev_⟩
      rw [eM_, ev_]
      clear eM_ ev_ v_ M_
      show Wp 3 703 122 [some (.inr (.inr (7, 0))), some (.inr (.inr (5, 0))), some (.inl x2), some (.inl x3), some (.inl x4), some (.inl x5), some (.inl x6), some (.inl x7)] [.inl (atN 72 (M1_4.1 408 (phV (M1_4.1 5 0 11) x5)) x6), .inl (M1_4.1 7 0 10), .inr (.inr (804, 0))] M1_4 (rV Q)
      refine Wp.call (put_804) rfl rfl (by decide) ?_
      rintro v_ M_ ⟨eM_, ev_⟩
      rw [eM_, ev_]
      clear eM_ ev_ v_ M_
      refine Bd (e := setA M1_4 804 0 (putN 864 (M1_4.1 804 0) (M1_4.1 7 0 10) (atN 72 (M1_4.1 408 (phV (M1_4.1 5 0 11) x5)) x6))) (P := fun M1_5 : Mm => Wp 3 703 125 [some (.inr (.inr (7, 0))), some (.inr (.inr (5, 0))), some (.inl x2), some (.inl x3), some (.inl x4), some (.inl x5), some (.inl x6), some (.inl x7)] [] M1_5 (rV Q)) ?_
      intro M1_5 e_M1_5
      replace h := h M1_5 e_M1_5
      refine Wp.path (k := 5) [] (C := [inR (x5 + 1)]) (pc' := 131) (ls' := [some (.inr (.inr (7, 0))), some (.inr (.inr (5, 0))), some (.inl x2), some (.inl x3), some (.inl x4), some (.inl x5), some (.inl x6), some (.inl x7)]) (st' := [.inl (x5 + 1), .inr (.inr (5, 0)), .inr (.inr (7, 0))]) (M' := M1_5) rfl h.1 ?_
      replace h := h.2
      refine Wp.call (e503) rfl rfl (by decide) ?_
      rintro v_ M_ ⟨eM_, ev_⟩
      rw [eM_, ev_]
      clear eM_ ev_ v_ M_
      show Wp 3 703 134 [some (.inr (.inr (7, 0))), some (.inr (.inr (5, 0))), some (.inl x2), some (.inl x3), some (.inl x4), some (.inl x5), some (.inl x6), some (.inl x7)] [.inr (.inr (3, (phV (M1_5.1 5 0 11) (x5 + 1)))), .inr (.inr (7, 0))] M1_5 (rV Q)
      refine Wp.path (k := 6) [] (C := [inR (x5 + 1)]) (pc' := 144) (ls' := [some (.inr (.inr (7, 0))), some (.inr (.inr (5, 0))), some (.inl x2), some (.inl x3), some (.inl x4), some (.inl x5), some (.inl x6), some (.inl x7)]) (st' := [.inl (M1_5.1 7 0 10), .inl x6, .inl (x5 + 1), .inr (.inr (3, (phV (M1_5.1 5 0 11) (x5 + 1)))), .inr (.inr (7, 0))]) (M' := M1_5) rfl h.1 ?_
      replace h := h.2
      refine Wp.call h rfl rfl (by decide) ?_
      rintro _ M1_6 ⟨rfl, h⟩
      show Wp 3 703 147 [some (.inr (.inr (7, 0))), some (.inr (.inr (5, 0))), some (.inl x2), some (.inl x3), some (.inl x4), some (.inl x5), some (.inl x6), some (.inl x7)] [] M1_6 (rV Q)
      refine Wp.path (k := 6) [] (C := [inR ((M1_6.1 7 0 10) + 1)]) (pc' := 157) (ls' := [some (.inr (.inr (7, 0))), some (.inr (.inr (5, 0))), some (.inl x2), some (.inl x3), some (.inl x4), some (.inl x5), some (.inl x6), some (.inl x7)]) (st' := []) (M' := setI M1_6 7 0 10 ((M1_6.1 7 0 10) + 1)) rfl h.1 ?_
      replace h := h.2
      refine Bd (P := fun M1_7 : Mm => Wp 3 703 157 [some (.inr (.inr (7, 0))), some (.inr (.inr (5, 0))), some (.inl x2), some (.inl x3), some (.inl x4), some (.inl x5), some (.inl x6), some (.inl x7)] [] M1_7 (rV Q)) ?_
      intro M1_7 e_M1_7
      replace h := h M1_7 e_M1_7
      exact Wp.ret rfl ⟨rfl, h⟩
  · replace h := h.1 c_1
    refine Wp.path (k := 1) [1] (C := [12 ≤ x7]) (pc' := 53) (ls' := [some (.inr (.inr (7, 0))), some (.inr (.inr (5, 0))), some (.inl x2), some (.inl x3), some (.inl x4), some (.inl x5), some (.inl x6), some (.inl x7)]) (st' := []) (M' := M) rfl c_1 ?_
    refine Wp.path (k := 5) [] (C := []) (pc' := 62) (ls' := [some (.inr (.inr (7, 0))), some (.inr (.inr (5, 0))), some (.inl x2), some (.inl x3), some (.inl x4), some (.inl x5), some (.inl x6), some (.inl x7)]) (st' := [.inl x2, .inl (M.1 7 0 10), .inr (.inr (800, 0))]) (M' := M) rfl trivial ?_
    refine Wp.call (put_800) rfl rfl (by decide) ?_
    rintro v_ M_ ⟨eM_, ev_⟩
    rw [eM_, ev_]
    clear eM_ ev_ v_ M_
    refine Bd (e := setA M 800 0 (putN 864 (M.1 800 0) (M.1 7 0 10) x2)) (P := fun M1_8 : Mm => Wp 3 703 65 [some (.inr (.inr (7, 0))), some (.inr (.inr (5, 0))), some (.inl x2), some (.inl x3), some (.inl x4), some (.inl x5), some (.inl x6), some (.inl x7)] [] M1_8 (rV Q)) ?_
    intro M1_8 e_M1_8
    replace h := h M1_8 e_M1_8
    refine Wp.path (k := 5) [] (C := []) (pc' := 75) (ls' := [some (.inr (.inr (7, 0))), some (.inr (.inr (5, 0))), some (.inl x2), some (.inl x3), some (.inl x4), some (.inl x5), some (.inl x6), some (.inl x7)]) (st' := [.inl x5, .inl (M1_8.1 7 0 10), .inr (.inr (801, 0))]) (M' := M1_8) rfl trivial ?_
    refine Wp.call (put_801) rfl rfl (by decide) ?_
    rintro v_ M_ ⟨eM_, ev_⟩
    rw [eM_, ev_]
    clear eM_ ev_ v_ M_
    refine Bd (e := setA M1_8 801 0 (putN 864 (M1_8.1 801 0) (M1_8.1 7 0 10) x5)) (P := fun M1_9 : Mm => Wp 3 703 78 [some (.inr (.inr (7, 0))), some (.inr (.inr (5, 0))), some (.inl x2), some (.inl x3), some (.inl x4), some (.inl x5), some (.inl x6), some (.inl x7)] [] M1_9 (rV Q)) ?_
    intro M1_9 e_M1_9
    replace h := h M1_9 e_M1_9
    refine Wp.path (k := 5) [] (C := []) (pc' := 87) (ls' := [some (.inr (.inr (7, 0))), some (.inr (.inr (5, 0))), some (.inl x2), some (.inl x3), some (.inl x4), some (.inl x5), some (.inl x6), some (.inl x7)]) (st' := [.inl x3, .inl (M1_9.1 7 0 10), .inr (.inr (802, 0))]) (M' := M1_9) rfl trivial ?_
    refine Wp.call (put_802) rfl rfl (by decide) ?_
    rintro v_ M_ ⟨eM_, ev_⟩
    rw [eM_, ev_]
    clear eM_ ev_ v_ M_
    refine Bd (e := setA M1_9 802 0 (putN 864 (M1_9.1 802 0) (M1_9.1 7 0 10) x3)) (P := fun M1_10 : Mm => Wp 3 703 90 [some (.inr (.inr (7, 0))), some (.inr (.inr (5, 0))), some (.inl x2), some (.inl x3), some (.inl x4), some (.inl x5), some (.inl x6), some (.inl x7)] [] M1_10 (rV Q)) ?_
    intro M1_10 e_M1_10
    replace h := h M1_10 e_M1_10
    refine Wp.path (k := 5) [] (C := []) (pc' := 100) (ls' := [some (.inr (.inr (7, 0))), some (.inr (.inr (5, 0))), some (.inl x2), some (.inl x3), some (.inl x4), some (.inl x5), some (.inl x6), some (.inl x7)]) (st' := [.inl x4, .inl (M1_10.1 7 0 10), .inr (.inr (803, 0))]) (M' := M1_10) rfl trivial ?_
    refine Wp.call (put_803) rfl rfl (by decide) ?_
    rintro v_ M_ ⟨eM_, ev_⟩
    rw [eM_, ev_]
    clear eM_ ev_ v_ M_
    refine Bd (e := setA M1_10 803 0 (putN 864 (M1_10.1 803 0) (M1_10.1 7 0 10) x4)) (P := fun M1_11 : Mm => Wp 3 703 103 [some (.inr (.inr (7, 0))), some (.inr (.inr (5, 0))), some (.inl x2), some (.inl x3), some (.inl x4), some (.inl x5), some (.inl x6), some (.inl x7)] [] M1_11 (rV Q)) ?_
    intro M1_11 e_M1_11
    replace h := h M1_11 e_M1_11
    refine Wp.path (k := 6) [] (C := []) (pc' := 114) (ls' := [some (.inr (.inr (7, 0))), some (.inr (.inr (5, 0))), some (.inl x2), some (.inl x3), some (.inl x4), some (.inl x5), some (.inl x6), some (.inl x7)]) (st' := [.inl x5, .inr (.inr (5, 0)), .inl (M1_11.1 7 0 10), .inr (.inr (804, 0))]) (M' := M1_11) rfl trivial ?_
    refine Wp.call (e503) rfl rfl (by decide) ?_
    rintro v_ M_ ⟨eM_, ev_⟩
    rw [eM_, ev_]
    clear eM_ ev_ v_ M_
    show Wp 3 703 117 [some (.inr (.inr (7, 0))), some (.inr (.inr (5, 0))), some (.inl x2), some (.inl x3), some (.inl x4), some (.inl x5), some (.inl x6), some (.inl x7)] [.inr (.inr (3, (phV (M1_11.1 5 0 11) x5))), .inl (M1_11.1 7 0 10), .inr (.inr (804, 0))] M1_11 (rV Q)
    refine Wp.path (k := 1) [] (C := []) (pc' := 119) (ls' := [some (.inr (.inr (7, 0))), some (.inr (.inr (5, 0))), some (.inl x2), some (.inl x3), some (.inl x4), some (.inl x5), some (.inl x6), some (.inl x7)]) (st' := [.inl x6, .inr (.inr (3, (phV (M1_11.1 5 0 11) x5))), .inl (M1_11.1 7 0 10), .inr (.inr (804, 0))]) (M' := M1_11) rfl trivial ?_
    refine Wp.call (e313) rfl rfl (by decide) ?_
    rintro v_ M_ ⟨eM_, ev_⟩
    rw [eM_, ev_]
    clear eM_ ev_ v_ M_
    show Wp 3 703 122 [some (.inr (.inr (7, 0))), some (.inr (.inr (5, 0))), some (.inl x2), some (.inl x3), some (.inl x4), some (.inl x5), some (.inl x6), some (.inl x7)] [.inl (atN 72 (M1_11.1 408 (phV (M1_11.1 5 0 11) x5)) x6), .inl (M1_11.1 7 0 10), .inr (.inr (804, 0))] M1_11 (rV Q)
    refine Wp.call (put_804) rfl rfl (by decide) ?_
    rintro v_ M_ ⟨eM_, ev_⟩
    rw [eM_, ev_]
    clear eM_ ev_ v_ M_
    refine Bd (e := setA M1_11 804 0 (putN 864 (M1_11.1 804 0) (M1_11.1 7 0 10) (atN 72 (M1_11.1 408 (phV (M1_11.1 5 0 11) x5)) x6))) (P := fun M1_12 : Mm => Wp 3 703 125 [some (.inr (.inr (7, 0))), some (.inr (.inr (5, 0))), some (.inl x2), some (.inl x3), some (.inl x4), some (.inl x5), some (.inl x6), some (.inl x7)] [] M1_12 (rV Q)) ?_
    intro M1_12 e_M1_12
    replace h := h M1_12 e_M1_12
    refine Wp.path (k := 5) [] (C := [inR (x5 + 1)]) (pc' := 131) (ls' := [some (.inr (.inr (7, 0))), some (.inr (.inr (5, 0))), some (.inl x2), some (.inl x3), some (.inl x4), some (.inl x5), some (.inl x6), some (.inl x7)]) (st' := [.inl (x5 + 1), .inr (.inr (5, 0)), .inr (.inr (7, 0))]) (M' := M1_12) rfl h.1 ?_
    replace h := h.2
    refine Wp.call (e503) rfl rfl (by decide) ?_
    rintro v_ M_ ⟨eM_, ev_⟩
    rw [eM_, ev_]
    clear eM_ ev_ v_ M_
    show Wp 3 703 134 [some (.inr (.inr (7, 0))), some (.inr (.inr (5, 0))), some (.inl x2), some (.inl x3), some (.inl x4), some (.inl x5), some (.inl x6), some (.inl x7)] [.inr (.inr (3, (phV (M1_12.1 5 0 11) (x5 + 1)))), .inr (.inr (7, 0))] M1_12 (rV Q)
    refine Wp.path (k := 6) [] (C := [inR (x5 + 1)]) (pc' := 144) (ls' := [some (.inr (.inr (7, 0))), some (.inr (.inr (5, 0))), some (.inl x2), some (.inl x3), some (.inl x4), some (.inl x5), some (.inl x6), some (.inl x7)]) (st' := [.inl (M1_12.1 7 0 10), .inl x6, .inl (x5 + 1), .inr (.inr (3, (phV (M1_12.1 5 0 11) (x5 + 1)))), .inr (.inr (7, 0))]) (M' := M1_12) rfl h.1 ?_
    replace h := h.2
    refine Wp.call h rfl rfl (by decide) ?_
    rintro _ M1_13 ⟨rfl, h⟩
    show Wp 3 703 147 [some (.inr (.inr (7, 0))), some (.inr (.inr (5, 0))), some (.inl x2), some (.inl x3), some (.inl x4), some (.inl x5), some (.inl x6), some (.inl x7)] [] M1_13 (rV Q)
    refine Wp.path (k := 6) [] (C := [inR ((M1_13.1 7 0 10) + 1)]) (pc' := 157) (ls' := [some (.inr (.inr (7, 0))), some (.inr (.inr (5, 0))), some (.inl x2), some (.inl x3), some (.inl x4), some (.inl x5), some (.inl x6), some (.inl x7)]) (st' := []) (M' := setI M1_13 7 0 10 ((M1_13.1 7 0 10) + 1)) rfl h.1 ?_
    replace h := h.2
    refine Bd (P := fun M1_14 : Mm => Wp 3 703 157 [some (.inr (.inr (7, 0))), some (.inr (.inr (5, 0))), some (.inl x2), some (.inl x3), some (.inl x4), some (.inl x5), some (.inl x6), some (.inl x7)] [] M1_14 (rV Q)) ?_
    intro M1_14 e_M1_14
    replace h := h M1_14 e_M1_14
    exact Wp.ret rfl ⟨rfl, h⟩
/-- X7_measureWays -/
def E_704 (M : Mm) (Q : Mm → Prop) : Prop := Ev 1 704 [.inr (.inr (7, 0))] M (rV Q)
theorem m_704 {M : Mm} {Q Q1 : Mm → Prop} (h : E_704 M Q) (k : (∀ M1, Q M1 → Q1 M1)) : E_704 M Q1 := Ev.mono h (fun v M1 h => ⟨h.1, k _ h.2⟩)
def L_704_15 (x1 : Int) (M : Mm) (Q : Mm → Prop) : Prop := ∀ o2 : Option Vv, Wp 1 704 15 [some (.inr (.inr (7, 0))), some (.inl x1), o2] [] M (rV Q)
theorem s_704_0 {M : Mm} {Q : Mm → Prop} (h : (∀ M1 : Mm, M1 = setA M 805 0 (upTo (fun _ => 1) (M.1 805 0) 864) → (((-2147483648 ≤ (M1.1 7 0 10) - 1 ∧ (M1.1 7 0 10) - 1 ≤ 2147483647)) ∧ (∀ x1 : Int, x1 = (M1.1 7 0 10) - 1 → (L_704_15 x1 M1 Q))))) : E_704 M Q := by
  show Wp 1 704 0 [some (.inr (.inr (7, 0))), none, none] [] M (rV Q)
  refine Wp.path (k := 3) [] (C := []) (pc' := 5) (ls' := [some (.inr (.inr (7, 0))), none, none]) (st' := [.inl 1, .inr (.inr (805, 0))]) (M' := M) rfl trivial ?_
  refine Wp.call (fill_805) rfl rfl (by decide) ?_
  rintro v_ M_ ⟨eM_, ev_⟩
  rw [eM_, ev_]
  clear eM_ ev_ v_ M_
  refine Bd (e := setA M 805 0 (upTo (fun _ => 1) (M.1 805 0) 864)) (P := fun M1 : Mm => Wp 1 704 8 [some (.inr (.inr (7, 0))), none, none] [] M1 (rV Q)) ?_
  intro M1 e_M1
  replace h := h M1 e_M1
  refine Wp.path (k := 5) [] (C := [inR ((M1.1 7 0 10) - 1)]) (pc' := 15) (ls' := [some (.inr (.inr (7, 0))), some (.inl ((M1.1 7 0 10) - 1)), none]) (st' := []) (M' := M1) rfl h.1 ?_
  replace h := h.2
  refine Bd (P := fun x1 : Int => Wp 1 704 15 [some (.inr (.inr (7, 0))), some (.inl x1), none] [] M1 (rV Q)) ?_
  intro x1 e_x1
  replace h := h x1 e_x1
  exact h _
theorem s_704_15 {x1 : Int} {M : Mm} {Q : Mm → Prop} (h : ((x1 < 0 → (Q M)) ∧ (0 ≤ x1 → (∀ x2 : Int, x2 = atN 864 (M.1 803 0) x1 → (((-2147483648 ≤ (atN 864 (M.1 805 0) x1) + 1 ∧ (atN 864 (M.1 805 0) x1) + 1 ≤ 2147483647)) ∧ (∀ M1 : Mm, M1 = setA M 805 0 (putN 864 (M.1 805 0) x2 (if atN 864 (M.1 805 0) x2 < (atN 864 (M.1 805 0) x1) + 1 then (atN 864 (M.1 805 0) x1) + 1 else atN 864 (M.1 805 0) x2)) → (((-2147483648 ≤ x1 + (-1) ∧ x1 + (-1) ≤ 2147483647)) ∧ (L_704_15 (x1 + (-1)) M1 Q)))))))) : L_704_15 x1 M Q := by
  intro o2
  show Wp 1 704 15 [some (.inr (.inr (7, 0))), some (.inl x1), o2] [] M (rV Q)
  refine Wp.path (k := 1) [] (C := []) (pc' := 16) (ls' := [some (.inr (.inr (7, 0))), some (.inl x1), o2]) (st' := [.inl x1]) (M' := M) rfl trivial ?_
  rcases Int.lt_or_le (x1) (0) with c_1 | c_1
  · replace h := h.1 c_1
    refine Wp.path (k := 1) [1] (C := [x1 < 0]) (pc' := 63) (ls' := [some (.inr (.inr (7, 0))), some (.inl x1), o2]) (st' := []) (M' := M) rfl c_1 ?_
    exact Wp.ret rfl ⟨rfl, h⟩
  · replace h := h.2 c_1
    refine Wp.path (k := 1) [0] (C := [0 ≤ x1]) (pc' := 19) (ls' := [some (.inr (.inr (7, 0))), some (.inl x1), o2]) (st' := []) (M' := M) rfl c_1 ?_
    refine Wp.path (k := 3) [] (C := []) (pc' := 24) (ls' := [some (.inr (.inr (7, 0))), some (.inl x1), o2]) (st' := [.inl x1, .inr (.inr (803, 0))]) (M' := M) rfl trivial ?_
    refine Wp.call (at_803) rfl rfl (by decide) ?_
    rintro v_ M_ ⟨eM_, ev_⟩
    rw [eM_, ev_]
    clear eM_ ev_ v_ M_
    show Wp 1 704 27 [some (.inr (.inr (7, 0))), some (.inl x1), o2] [.inl (atN 864 (M.1 803 0) x1)] M (rV Q)
    refine Wp.path (k := 1) [] (C := []) (pc' := 28) (ls' := [some (.inr (.inr (7, 0))), some (.inl x1), some (.inl (atN 864 (M.1 803 0) x1))]) (st' := []) (M' := M) rfl trivial ?_
    refine Bd (P := fun x2 : Int => Wp 1 704 28 [some (.inr (.inr (7, 0))), some (.inl x1), some (.inl x2)] [] M (rV Q)) ?_
    intro x2 e_x2
    replace h := h x2 e_x2
    refine Wp.path (k := 6) [] (C := []) (pc' := 38) (ls' := [some (.inr (.inr (7, 0))), some (.inl x1), some (.inl x2)]) (st' := [.inl x2, .inr (.inr (805, 0)), .inl x2, .inr (.inr (805, 0))]) (M' := M) rfl trivial ?_
    refine Wp.call (at_805) rfl rfl (by decide) ?_
    rintro v_ M_ ⟨eM_, ev_⟩
    rw [eM_, ev_]
    clear eM_ ev_ v_ M_
    show Wp 1 704 41 [some (.inr (.inr (7, 0))), some (.inl x1), some (.inl x2)] [.inl (atN 864 (M.1 805 0) x2), .inl x2, .inr (.inr (805, 0))] M (rV Q)
    refine Wp.path (k := 3) [] (C := []) (pc' := 46) (ls' := [some (.inr (.inr (7, 0))), some (.inl x1), some (.inl x2)]) (st' := [.inl x1, .inr (.inr (805, 0)), .inl (atN 864 (M.1 805 0) x2), .inl x2, .inr (.inr (805, 0))]) (M' := M) rfl trivial ?_
    refine Wp.call (at_805) rfl rfl (by decide) ?_
    rintro v_ M_ ⟨eM_, ev_⟩
    rw [eM_, ev_]
    clear eM_ ev_ v_ M_
    show Wp 1 704 49 [some (.inr (.inr (7, 0))), some (.inl x1), some (.inl x2)] [.inl (atN 864 (M.1 805 0) x1), .inl (atN 864 (M.1 805 0) x2), .inl x2, .inr (.inr (805, 0))] M (rV Q)
    refine Wp.path (k := 3) [] (C := [inR ((atN 864 (M.1 805 0) x1) + 1)]) (pc' := 54) (ls' := [some (.inr (.inr (7, 0))), some (.inl x1), some (.inl x2)]) (st' := [.inl (if atN 864 (M.1 805 0) x2 < (atN 864 (M.1 805 0) x1) + 1 then (atN 864 (M.1 805 0) x1) + 1 else atN 864 (M.1 805 0) x2), .inl x2, .inr (.inr (805, 0))]) (M' := M) rfl h.1 ?_
    replace h := h.2
    refine Wp.call (put_805) rfl rfl (by decide) ?_
    rintro v_ M_ ⟨eM_, ev_⟩
    rw [eM_, ev_]
    clear eM_ ev_ v_ M_
    refine Bd (e := setA M 805 0 (putN 864 (M.1 805 0) x2 (if atN 864 (M.1 805 0) x2 < (atN 864 (M.1 805 0) x1) + 1 then (atN 864 (M.1 805 0) x1) + 1 else atN 864 (M.1 805 0) x2))) (P := fun M1 : Mm => Wp 1 704 57 [some (.inr (.inr (7, 0))), some (.inl x1), some (.inl x2)] [] M1 (rV Q)) ?_
    intro M1 e_M1
    replace h := h M1 e_M1
    refine Wp.path (k := 2) [] (C := [inR (x1 + (-1))]) (pc' := 15) (ls' := [some (.inr (.inr (7, 0))), some (.inl (x1 + (-1))), some (.inl x2)]) (st' := []) (M' := M1) rfl h.1 ?_
    replace h := h.2
    exact h _
/-- X7_grow -/
def E_701 (M : Mm) (Q : Mm → Prop) : Prop := Ev 4 701 [.inr (.inr (7, 0)), .inr (.inr (5, 0))] M (rV Q)
theorem m_701 {M : Mm} {Q Q1 : Mm → Prop} (h : E_701 M Q) (k : (∀ M1, Q M1 → Q1 M1)) : E_701 M Q1 := Ev.mono h (fun v M1 h => ⟨h.1, k _ h.2⟩)
def L_701_24 (x2 : Int) (M : Mm) (Q : Mm → Prop) : Prop := Wp 4 701 24 [some (.inr (.inr (7, 0))), some (.inr (.inr (5, 0))), some (.inl x2)] [] M (rV Q)
theorem s_701_0 {M : Mm} {Q : Mm → Prop} (h : (∀ M1 : Mm, M1 = setI M 7 0 10 0 → (∀ M1_1 : Mm, M1_1 = setI M1 7 0 9 0 → (E_702 (phV (M1_1.1 5 0 11) 0) 0 (-1) (-1) M1_1 (fun M1_2 : Mm => (L_701_24 0 M1_2 Q)))))) : E_701 M Q := by
  show Wp 4 701 0 [some (.inr (.inr (7, 0))), some (.inr (.inr (5, 0))), none] [] M (rV Q)
  refine Wp.path (k := 3) [] (C := []) (pc' := 5) (ls' := [some (.inr (.inr (7, 0))), some (.inr (.inr (5, 0))), none]) (st' := []) (M' := setI M 7 0 10 0) rfl trivial ?_
  refine Bd (P := fun M1 : Mm => Wp 4 701 5 [some (.inr (.inr (7, 0))), some (.inr (.inr (5, 0))), none] [] M1 (rV Q)) ?_
  intro M1 e_M1
  replace h := h M1 e_M1
  refine Wp.path (k := 3) [] (C := []) (pc' := 10) (ls' := [some (.inr (.inr (7, 0))), some (.inr (.inr (5, 0))), none]) (st' := []) (M' := setI M1 7 0 9 0) rfl trivial ?_
  refine Bd (P := fun M1_1 : Mm => Wp 4 701 10 [some (.inr (.inr (7, 0))), some (.inr (.inr (5, 0))), none] [] M1_1 (rV Q)) ?_
  intro M1_1 e_M1_1
  replace h := h M1_1 e_M1_1
  refine Wp.path (k := 3) [] (C := []) (pc' := 13) (ls' := [some (.inr (.inr (7, 0))), some (.inr (.inr (5, 0))), none]) (st' := [.inl 0, .inr (.inr (5, 0)), .inr (.inr (7, 0))]) (M' := M1_1) rfl trivial ?_
  refine Wp.call (e503) rfl rfl (by decide) ?_
  rintro v_ M_ ⟨eM_, ev_⟩
  rw [eM_, ev_]
  clear eM_ ev_ v_ M_
  show Wp 4 701 16 [some (.inr (.inr (7, 0))), some (.inr (.inr (5, 0))), none] [.inr (.inr (3, (phV (M1_1.1 5 0 11) 0))), .inr (.inr (7, 0))] M1_1 (rV Q)
  refine Wp.path (k := 3) [] (C := []) (pc' := 19) (ls' := [some (.inr (.inr (7, 0))), some (.inr (.inr (5, 0))), none]) (st' := [.inl (-1), .inl (-1), .inl 0, .inr (.inr (3, (phV (M1_1.1 5 0 11) 0))), .inr (.inr (7, 0))]) (M' := M1_1) rfl trivial ?_
  refine Wp.call h rfl rfl (by decide) ?_
  rintro _ M1_2 ⟨rfl, h⟩
  show Wp 4 701 22 [some (.inr (.inr (7, 0))), some (.inr (.inr (5, 0))), none] [] M1_2 (rV Q)
  refine Wp.path (k := 2) [] (C := []) (pc' := 24) (ls' := [some (.inr (.inr (7, 0))), some (.inr (.inr (5, 0))), some (.inl 0)]) (st' := []) (M' := M1_2) rfl trivial ?_
  exact h
theorem s_701_24 {x2 : Int} {M : Mm} {Q : Mm → Prop} (h : ((864 ≤ x2 → (E_704 M (fun M1_3 : Mm => (Q M1_3)))) ∧ (x2 < 864 → ((M.1 7 0 9 ≤ 0 → (E_704 M (fun M1_2 : Mm => (Q M1_2)))) ∧ (0 < M.1 7 0 9 → (((-2147483648 ≤ (M.1 7 0 9) - 1 ∧ (M.1 7 0 9) - 1 ≤ 2147483647)) ∧ (∀ M1 : Mm, M1 = setI M 7 0 9 ((M.1 7 0 9) - 1) → (E_703 (atN 864 (M1.1 806 0) (M1.1 7 0 9)) (atN 864 (M1.1 807 0) (M1.1 7 0 9)) (atN 864 (M1.1 808 0) (M1.1 7 0 9)) M1 (fun M1_1 : Mm => ((-2147483648 ≤ x2 + 1 ∧ x2 + 1 ≤ 2147483647)) ∧ (L_701_24 (x2 + 1) M1_1 Q)))))))))) : L_701_24 x2 M Q := by
  show Wp 4 701 24 [some (.inr (.inr (7, 0))), some (.inr (.inr (5, 0))), some (.inl x2)] [] M (rV Q)
  refine Wp.path (k := 2) [] (C := []) (pc' := 28) (ls' := [some (.inr (.inr (7, 0))), some (.inr (.inr (5, 0))), some (.inl x2)]) (st' := [.inl 864, .inl x2]) (M' := M) rfl trivial ?_
  rcases Int.lt_or_le (x2) (864) with c_1 | c_1
  · replace h := h.2 c_1
    refine Wp.path (k := 1) [0] (C := [x2 < 864]) (pc' := 31) (ls' := [some (.inr (.inr (7, 0))), some (.inr (.inr (5, 0))), some (.inl x2)]) (st' := []) (M' := M) rfl c_1 ?_
    refine Wp.path (k := 2) [] (C := []) (pc' := 35) (ls' := [some (.inr (.inr (7, 0))), some (.inr (.inr (5, 0))), some (.inl x2)]) (st' := [.inl (M.1 7 0 9)]) (M' := M) rfl trivial ?_
    rcases Int.lt_or_le (0) (M.1 7 0 9) with c_2 | c_2
    · replace h := h.2 c_2
      refine Wp.path (k := 1) [0] (C := [0 < M.1 7 0 9]) (pc' := 38) (ls' := [some (.inr (.inr (7, 0))), some (.inr (.inr (5, 0))), some (.inl x2)]) (st' := []) (M' := M) rfl c_2 ?_
      refine Wp.path (k := 6) [] (C := [inR ((M.1 7 0 9) - 1)]) (pc' := 48) (ls' := [some (.inr (.inr (7, 0))), some (.inr (.inr (5, 0))), some (.inl x2)]) (st' := []) (M' := setI M 7 0 9 ((M.1 7 0 9) - 1)) rfl h.1 ?_
      replace h := h.2
      refine Bd (P := fun M1 : Mm => Wp 4 701 48 [some (.inr (.inr (7, 0))), some (.inr (.inr (5, 0))), some (.inl x2)] [] M1 (rV Q)) ?_
      intro M1 e_M1
      replace h := h M1 e_M1
      refine Wp.path (k := 6) [] (C := []) (pc' := 58) (ls' := [some (.inr (.inr (7, 0))), some (.inr (.inr (5, 0))), some (.inl x2)]) (st' := [.inl (M1.1 7 0 9), .inr (.inr (806, 0)), .inr (.inr (5, 0)), .inr (.inr (7, 0))]) (M' := M1) rfl trivial ?_
      refine Wp.call (at_806) rfl rfl (by decide) ?_
      rintro v_ M_ ⟨eM_, ev_⟩
      rw [eM_, ev_]
      clear eM_ ev_ v_ M_
      show Wp 4 701 61 [some (.inr (.inr (7, 0))), some (.inr (.inr (5, 0))), some (.inl x2)] [.inl (atN 864 (M1.1 806 0) (M1.1 7 0 9)), .inr (.inr (5, 0)), .inr (.inr (7, 0))] M1 (rV Q)
      refine Wp.path (k := 4) [] (C := []) (pc' := 69) (ls' := [some (.inr (.inr (7, 0))), some (.inr (.inr (5, 0))), some (.inl x2)]) (st' := [.inl (M1.1 7 0 9), .inr (.inr (807, 0)), .inl (atN 864 (M1.1 806 0) (M1.1 7 0 9)), .inr (.inr (5, 0)), .inr (.inr (7, 0))]) (M' := M1) rfl trivial ?_
      refine Wp.call (at_807) rfl rfl (by decide) ?_
      rintro v_ M_ ⟨eM_, ev_⟩
      rw [eM_, ev_]
      clear eM_ ev_ v_ M_
      show Wp 4 701 72 [some (.inr (.inr (7, 0))), some (.inr (.inr (5, 0))), some (.inl x2)] [.inl (atN 864 (M1.1 807 0) (M1.1 7 0 9)), .inl (atN 864 (M1.1 806 0) (M1.1 7 0 9)), .inr (.inr (5, 0)), .inr (.inr (7, 0))] M1 (rV Q)
      refine Wp.path (k := 4) [] (C := []) (pc' := 80) (ls' := [some (.inr (.inr (7, 0))), some (.inr (.inr (5, 0))), some (.inl x2)]) (st' := [.inl (M1.1 7 0 9), .inr (.inr (808, 0)), .inl (atN 864 (M1.1 807 0) (M1.1 7 0 9)), .inl (atN 864 (M1.1 806 0) (M1.1 7 0 9)), .inr (.inr (5, 0)), .inr (.inr (7, 0))]) (M' := M1) rfl trivial ?_
      refine Wp.call (at_808) rfl rfl (by decide) ?_
      rintro v_ M_ ⟨eM_, ev_⟩
      rw [eM_, ev_]
      clear eM_ ev_ v_ M_
      show Wp 4 701 83 [some (.inr (.inr (7, 0))), some (.inr (.inr (5, 0))), some (.inl x2)] [.inl (atN 864 (M1.1 808 0) (M1.1 7 0 9)), .inl (atN 864 (M1.1 807 0) (M1.1 7 0 9)), .inl (atN 864 (M1.1 806 0) (M1.1 7 0 9)), .inr (.inr (5, 0)), .inr (.inr (7, 0))] M1 (rV Q)
      refine Wp.call h rfl rfl (by decide) ?_
      rintro _ M1_1 ⟨rfl, h⟩
      show Wp 4 701 86 [some (.inr (.inr (7, 0))), some (.inr (.inr (5, 0))), some (.inl x2)] [] M1_1 (rV Q)
      refine Wp.path (k := 2) [] (C := [inR (x2 + 1)]) (pc' := 24) (ls' := [some (.inr (.inr (7, 0))), some (.inr (.inr (5, 0))), some (.inl (x2 + 1))]) (st' := []) (M' := M1_1) rfl h.1 ?_
      replace h := h.2
      exact h
    · replace h := h.1 c_2
      refine Wp.path (k := 1) [1] (C := [M.1 7 0 9 ≤ 0]) (pc' := 92) (ls' := [some (.inr (.inr (7, 0))), some (.inr (.inr (5, 0))), some (.inl x2)]) (st' := []) (M' := M) rfl c_2 ?_
      refine Wp.path (k := 1) [] (C := []) (pc' := 93) (ls' := [some (.inr (.inr (7, 0))), some (.inr (.inr (5, 0))), some (.inl x2)]) (st' := [.inr (.inr (7, 0))]) (M' := M) rfl trivial ?_
      refine Wp.call h rfl rfl (by decide) ?_
      rintro _ M1_2 ⟨rfl, h⟩
      show Wp 4 701 96 [some (.inr (.inr (7, 0))), some (.inr (.inr (5, 0))), some (.inl x2)] [] M1_2 (rV Q)
      exact Wp.ret rfl ⟨rfl, h⟩
  · replace h := h.1 c_1
    refine Wp.path (k := 1) [1] (C := [864 ≤ x2]) (pc' := 92) (ls' := [some (.inr (.inr (7, 0))), some (.inr (.inr (5, 0))), some (.inl x2)]) (st' := []) (M' := M) rfl c_1 ?_
    refine Wp.path (k := 1) [] (C := []) (pc' := 93) (ls' := [some (.inr (.inr (7, 0))), some (.inr (.inr (5, 0))), some (.inl x2)]) (st' := [.inr (.inr (7, 0))]) (M' := M) rfl trivial ?_
    refine Wp.call h rfl rfl (by decide) ?_
    rintro _ M1_3 ⟨rfl, h⟩
    show Wp 4 701 96 [some (.inr (.inr (7, 0))), some (.inr (.inr (5, 0))), some (.inl x2)] [] M1_3 (rV Q)
    exact Wp.ret rfl ⟨rfl, h⟩
/-- X5_refresh -/
def E_502 (i1 : Nat) (M : Mm) (Q : Mm → Prop) : Prop := Ev 5 502 [.inr (.inr (5, 0)), .inr (.inr (4, i1))] M (rV Q)
theorem m_502 {i1 : Nat} {M : Mm} {Q Q1 : Mm → Prop} (h : E_502 i1 M Q) (k : (∀ M1, Q M1 → Q1 M1)) : E_502 i1 M Q1 := Ev.mono h (fun v M1 h => ⟨h.1, k _ h.2⟩)
def L_502_20 (i1 : Nat) (i2 : Nat) (x3 : Int) (M : Mm) (Q : Mm → Prop) : Prop := ∀ o4 : Option Vv, Wp 5 502 20 [some (.inr (.inr (5, 0))), some (.inr (.inr (4, i1))), some (.inr (.inr (3, i2))), some (.inl x3), o4] [] M (rV Q)
theorem s_502_0 {i1 : Nat} {M : Mm} {Q : Mm → Prop} (h : ((M.1 5 0 10 = 0 → (E_507 i1 M (fun M1 : Mm => (L_502_20 i1 12 0 M1 Q)))) ∧ (M.1 5 0 10 ≠ 0 → (Q M)))) : E_502 i1 M Q := by
  show Wp 5 502 0 [some (.inr (.inr (5, 0))), some (.inr (.inr (4, i1))), none, none, none] [] M (rV Q)
  refine Wp.path (k := 2) [] (C := []) (pc' := 4) (ls' := [some (.inr (.inr (5, 0))), some (.inr (.inr (4, i1))), none, none, none]) (st' := [.inl (M.1 5 0 10)]) (M' := M) rfl trivial ?_
  rcases Decidable.em (M.1 5 0 10 = 0) with c_1 | c_1
  · replace h := h.1 c_1
    refine Wp.path (k := 1) [1] (C := [M.1 5 0 10 = 0]) (pc' := 8) (ls' := [some (.inr (.inr (5, 0))), some (.inr (.inr (4, i1))), none, none, none]) (st' := []) (M' := M) rfl c_1 ?_
    refine Wp.path (k := 2) [] (C := []) (pc' := 10) (ls' := [some (.inr (.inr (5, 0))), some (.inr (.inr (4, i1))), none, none, none]) (st' := [.inr (.inr (4, i1)), .inr (.inr (5, 0))]) (M' := M) rfl trivial ?_
    refine Wp.call h rfl rfl (by decide) ?_
    rintro _ M1 ⟨rfl, h⟩
    show Wp 5 502 13 [some (.inr (.inr (5, 0))), some (.inr (.inr (4, i1))), none, none, none] [] M1 (rV Q)
    refine Wp.path (k := 5) [] (C := []) (pc' := 20) (ls' := [some (.inr (.inr (5, 0))), some (.inr (.inr (4, i1))), some (.inr (.inr (3, 12))), some (.inl 0), none]) (st' := []) (M' := M1) rfl trivial ?_
    exact h _
  · replace h := h.2 c_1
    refine Wp.path (k := 1) [0] (C := [M.1 5 0 10 ≠ 0]) (pc' := 7) (ls' := [some (.inr (.inr (5, 0))), some (.inr (.inr (4, i1))), none, none, none]) (st' := []) (M' := M) rfl c_1 ?_
    exact Wp.ret rfl ⟨rfl, h⟩
theorem s_502_20 {i1 : Nat} {i2 : Nat} {x3 : Int} {M : Mm} {Q : Mm → Prop} (h : ((M.1 5 0 11 ≤ x3 → (E_1 (phV (M.1 5 0 11) 0) M (fun M1_1 : Mm => (E_701 M1_1 (fun M1_2 : Mm => (E_516 M1_2 (fun M1_3 : Mm => (∀ M1_4 : Mm, M1_4 = setI M1_3 5 0 10 1 → (Q M1_4))))))))) ∧ (x3 < M.1 5 0 11 → (E_304 (phV (M.1 5 0 11) x3) i2 M (fun M1 : Mm => ((-2147483648 ≤ x3 + 1 ∧ x3 + 1 ≤ 2147483647)) ∧ (L_502_20 i1 (phV (M.1 5 0 11) x3) (x3 + 1) M1 Q)))))) : L_502_20 i1 i2 x3 M Q := by
  intro o4
  show Wp 5 502 20 [some (.inr (.inr (5, 0))), some (.inr (.inr (4, i1))), some (.inr (.inr (3, i2))), some (.inl x3), o4] [] M (rV Q)
  refine Wp.path (k := 3) [] (C := []) (pc' := 25) (ls' := [some (.inr (.inr (5, 0))), some (.inr (.inr (4, i1))), some (.inr (.inr (3, i2))), some (.inl x3), o4]) (st' := [.inl (M.1 5 0 11), .inl x3]) (M' := M) rfl trivial ?_
  rcases Int.lt_or_le (x3) (M.1 5 0 11) with c_1 | c_1
  · replace h := h.2 c_1
    refine Wp.path (k := 1) [0] (C := [x3 < M.1 5 0 11]) (pc' := 28) (ls' := [some (.inr (.inr (5, 0))), some (.inr (.inr (4, i1))), some (.inr (.inr (3, i2))), some (.inl x3), o4]) (st' := []) (M' := M) rfl c_1 ?_
    refine Wp.path (k := 2) [] (C := []) (pc' := 30) (ls' := [some (.inr (.inr (5, 0))), some (.inr (.inr (4, i1))), some (.inr (.inr (3, i2))), some (.inl x3), o4]) (st' := [.inl x3, .inr (.inr (5, 0))]) (M' := M) rfl trivial ?_
    refine Wp.call (e503) rfl rfl (by decide) ?_
    rintro v_ M_ ⟨eM_, ev_⟩
    rw [eM_, ev_]
    clear eM_ ev_ v_ M_
    show Wp 5 502 33 [some (.inr (.inr (5, 0))), some (.inr (.inr (4, i1))), some (.inr (.inr (3, i2))), some (.inl x3), o4] [.inr (.inr (3, (phV (M.1 5 0 11) x3)))] M (rV Q)
    refine Wp.path (k := 3) [] (C := []) (pc' := 38) (ls' := [some (.inr (.inr (5, 0))), some (.inr (.inr (4, i1))), some (.inr (.inr (3, i2))), some (.inl x3), some (.inr (.inr (3, (phV (M.1 5 0 11) x3))))]) (st' := [.inr (.inr (3, i2)), .inr (.inr (3, (phV (M.1 5 0 11) x3)))]) (M' := M) rfl trivial ?_
    refine Wp.call h rfl rfl (by decide) ?_
    rintro _ M1 ⟨rfl, h⟩
    show Wp 5 502 41 [some (.inr (.inr (5, 0))), some (.inr (.inr (4, i1))), some (.inr (.inr (3, i2))), some (.inl x3), some (.inr (.inr (3, (phV (M.1 5 0 11) x3))))] [] M1 (rV Q)
    refine Wp.path (k := 4) [] (C := [inR (x3 + 1)]) (pc' := 20) (ls' := [some (.inr (.inr (5, 0))), some (.inr (.inr (4, i1))), some (.inr (.inr (3, (phV (M.1 5 0 11) x3)))), some (.inl (x3 + 1)), some (.inr (.inr (3, (phV (M.1 5 0 11) x3))))]) (st' := []) (M' := M1) rfl h.1 ?_
    replace h := h.2
    exact h _
  · replace h := h.1 c_1
    refine Wp.path (k := 1) [1] (C := [M.1 5 0 11 ≤ x3]) (pc' := 50) (ls' := [some (.inr (.inr (5, 0))), some (.inr (.inr (4, i1))), some (.inr (.inr (3, i2))), some (.inl x3), o4]) (st' := []) (M' := M) rfl c_1 ?_
    refine Wp.path (k := 4) [] (C := []) (pc' := 56) (ls' := [some (.inr (.inr (5, 0))), some (.inr (.inr (4, i1))), some (.inr (.inr (3, i2))), some (.inl x3), o4]) (st' := [.inl 0, .inr (.inr (5, 0)), .inr (.inr (0, 0))]) (M' := M) rfl trivial ?_
    refine Wp.call (e503) rfl rfl (by decide) ?_
    rintro v_ M_ ⟨eM_, ev_⟩
    rw [eM_, ev_]
    clear eM_ ev_ v_ M_
    show Wp 5 502 59 [some (.inr (.inr (5, 0))), some (.inr (.inr (4, i1))), some (.inr (.inr (3, i2))), some (.inl x3), o4] [.inr (.inr (3, (phV (M.1 5 0 11) 0))), .inr (.inr (0, 0))] M (rV Q)
    refine Wp.path (k := 1) [] (C := []) (pc' := 62) (ls' := [some (.inr (.inr (5, 0))), some (.inr (.inr (4, i1))), some (.inr (.inr (3, i2))), some (.inl x3), o4]) (st' := [.inr (.inr (2, (phV (M.1 5 0 11) 0))), .inr (.inr (0, 0))]) (M' := M) rfl trivial ?_
    refine Wp.call h rfl rfl (by decide) ?_
    rintro _ M1_1 ⟨rfl, h⟩
    show Wp 5 502 65 [some (.inr (.inr (5, 0))), some (.inr (.inr (4, i1))), some (.inr (.inr (3, i2))), some (.inl x3), o4] [] M1_1 (rV Q)
    refine Wp.path (k := 3) [] (C := []) (pc' := 70) (ls' := [some (.inr (.inr (5, 0))), some (.inr (.inr (4, i1))), some (.inr (.inr (3, i2))), some (.inl x3), o4]) (st' := [.inr (.inr (5, 0)), .inr (.inr (7, 0))]) (M' := M1_1) rfl trivial ?_
    refine Wp.call h rfl rfl (by decide) ?_
    rintro _ M1_2 ⟨rfl, h⟩
    show Wp 5 502 73 [some (.inr (.inr (5, 0))), some (.inr (.inr (4, i1))), some (.inr (.inr (3, i2))), some (.inl x3), o4] [] M1_2 (rV Q)
    refine Wp.path (k := 1) [] (C := []) (pc' := 74) (ls' := [some (.inr (.inr (5, 0))), some (.inr (.inr (4, i1))), some (.inr (.inr (3, i2))), some (.inl x3), o4]) (st' := [.inr (.inr (5, 0))]) (M' := M1_2) rfl trivial ?_
    refine Wp.call h rfl rfl (by decide) ?_
    rintro _ M1_3 ⟨rfl, h⟩
    show Wp 5 502 77 [some (.inr (.inr (5, 0))), some (.inr (.inr (4, i1))), some (.inr (.inr (3, i2))), some (.inl x3), o4] [] M1_3 (rV Q)
    refine Wp.path (k := 3) [] (C := [(1 : Int) = 0 ∨ (1 : Int) = 1]) (pc' := 82) (ls' := [some (.inr (.inr (5, 0))), some (.inr (.inr (4, i1))), some (.inr (.inr (3, i2))), some (.inl x3), o4]) (st' := []) (M' := setI M1_3 5 0 10 1) rfl (Or.inr rfl) ?_
    refine Bd (P := fun M1_4 : Mm => Wp 5 502 82 [some (.inr (.inr (5, 0))), some (.inr (.inr (4, i1))), some (.inr (.inr (3, i2))), some (.inl x3), o4] [] M1_4 (rV Q)) ?_
    intro M1_4 e_M1_4
    replace h := h M1_4 e_M1_4
    exact Wp.ret rfl ⟨rfl, h⟩
/-- X5_areaAt -/
def E_514 (x1 : Int) (M : Mm) (Q : Int → Mm → Prop) : Prop := Ev 1 514 [.inr (.inr (5, 0)), .inl x1] M (rI Q)
theorem m_514 {x1 : Int} {M : Mm} {Q Q1 : Int → Mm → Prop} (h : E_514 x1 M Q) (k : (∀ r M1, Q r M1 → Q1 r M1)) : E_514 x1 M Q1 := Ev.mono h (fun v M1 ⟨r, h1, h2⟩ => ⟨r, h1, k _ _ h2⟩)
theorem s_514_0 {x1 : Int} {M : Mm} {Q : Int → Mm → Prop} (h : ((-2147483648 ≤ 2 * x1 ∧ 2 * x1 ≤ 2147483647) ∧ (-2147483648 ≤ (2 * x1) + 1 ∧ (2 * x1) + 1 ≤ 2147483647)) ∧ (((-2147483648 ≤ atN 26 (M.1 607 0) ((2 * x1) + 1) ∧ atN 26 (M.1 607 0) ((2 * x1) + 1) ≤ 2147483647)) ∧ (∀ d : Int, d = Int.tdiv (atN 26 (M.1 607 0) ((2 * x1) + 1)) 4 → (Q d M)))) : E_514 x1 M Q := by
  show Wp 1 514 0 [some (.inr (.inr (5, 0))), some (.inl x1)] [] M (rI Q)
  refine Wp.path (k := 7) [] (C := [inR (2 * x1), inR ((2 * x1) + 1)]) (pc' := 9) (ls' := [some (.inr (.inr (5, 0))), some (.inl x1)]) (st' := [.inl ((2 * x1) + 1), .inr (.inr (607, 0))]) (M' := M) rfl ⟨h.1.1, h.1.2⟩ ?_
  replace h := h.2
  refine Wp.call (at_607) rfl rfl (by decide) ?_
  rintro v_ M_ ⟨eM_, ev_⟩
  rw [eM_, ev_]
  clear eM_ ev_ v_ M_
  show Wp 1 514 12 [some (.inr (.inr (5, 0))), some (.inl x1)] [.inl (atN 26 (M.1 607 0) ((2 * x1) + 1))] M (rI Q)
  refine Wp.path (k := 2) [] (C := [inR (atN 26 (M.1 607 0) ((2 * x1) + 1)) ∧ 0 < 4 ∧ inR 4]) (pc' := 14) (ls' := [some (.inr (.inr (5, 0))), some (.inl x1)]) (st' := [.inl (Int.tdiv (atN 26 (M.1 607 0) ((2 * x1) + 1)) 4)]) (M' := M) rfl ⟨h.1, by decide, ⟨by decide, by decide⟩⟩ ?_
  replace h := h.2
  refine Bd (P := fun d : Int => Wp 1 514 14 [some (.inr (.inr (5, 0))), some (.inl x1)] [.inl d] M (rI Q)) ?_
  intro d e_d
  replace h := h d e_d
  exact Wp.ret rfl ⟨_, rfl, h⟩
/-- X5_volumeBelow -/
def E_515 (M : Mm) (Q : Int → Mm → Prop) : Prop := Ev 2 515 [.inr (.inr (5, 0))] M (rI Q)
theorem m_515 {M : Mm} {Q Q1 : Int → Mm → Prop} (h : E_515 M Q) (k : (∀ r M1, Q r M1 → Q1 r M1)) : E_515 M Q1 := Ev.mono h (fun v M1 ⟨r, h1, h2⟩ => ⟨r, h1, k _ _ h2⟩)
def L_515_4 (x1 : Int) (x2 : Int) (M : Mm) (Q : Int → Mm → Prop) : Prop := Wp 2 515 4 [some (.inr (.inr (5, 0))), some (.inl x1), some (.inl x2)] [] M (rI Q)
theorem s_515_0 {M : Mm} {Q : Int → Mm → Prop} (h : (L_515_4 0 0 M Q)) : E_515 M Q := by
  show Wp 2 515 0 [some (.inr (.inr (5, 0))), none, none] [] M (rI Q)
  refine Wp.path (k := 4) [] (C := []) (pc' := 4) (ls' := [some (.inr (.inr (5, 0))), some (.inl 0), some (.inl 0)]) (st' := []) (M' := M) rfl trivial ?_
  exact h
theorem s_515_4 {x1 : Int} {x2 : Int} {M : Mm} {Q : Int → Mm → Prop} (h : ((M.1 5 0 11 ≤ x2 → (Q x1 M)) ∧ (x2 < M.1 5 0 11 → (E_514 x2 M (fun (r : Int) (M1 : Mm) => ((-2147483648 ≤ 2 * x2 ∧ 2 * x2 ≤ 2147483647) ∧ (-2147483648 ≤ (2 * x2) + 2 ∧ (2 * x2) + 2 ≤ 2147483647)) ∧ (((-2147483648 ≤ r + (atN 26 (M1.1 607 0) ((2 * x2) + 2)) ∧ r + (atN 26 (M1.1 607 0) ((2 * x2) + 2)) ≤ 2147483647) ∧ (-2147483648 ≤ x2 + 1 ∧ x2 + 1 ≤ 2147483647)) ∧ (E_514 (x2 + 1) M1 (fun (r_1 : Int) (M1_1 : Mm) => ((-2147483648 ≤ (r + (atN 26 (M1.1 607 0) ((2 * x2) + 2))) + r_1 ∧ (r + (atN 26 (M1.1 607 0) ((2 * x2) + 2))) + r_1 ≤ 2147483647) ∧ (-2147483648 ≤ x1 + ((r + (atN 26 (M1.1 607 0) ((2 * x2) + 2))) + r_1) ∧ x1 + ((r + (atN 26 (M1.1 607 0) ((2 * x2) + 2))) + r_1) ≤ 2147483647)) ∧ (∀ x1_1 : Int, x1_1 = x1 + ((r + (atN 26 (M1.1 607 0) ((2 * x2) + 2))) + r_1) → (((-2147483648 ≤ x2 + 1 ∧ x2 + 1 ≤ 2147483647)) ∧ (L_515_4 x1_1 (x2 + 1) M1_1 Q))))))))))) : L_515_4 x1 x2 M Q := by
  show Wp 2 515 4 [some (.inr (.inr (5, 0))), some (.inl x1), some (.inl x2)] [] M (rI Q)
  refine Wp.path (k := 3) [] (C := []) (pc' := 9) (ls' := [some (.inr (.inr (5, 0))), some (.inl x1), some (.inl x2)]) (st' := [.inl (M.1 5 0 11), .inl x2]) (M' := M) rfl trivial ?_
  rcases Int.lt_or_le (x2) (M.1 5 0 11) with c_1 | c_1
  · replace h := h.2 c_1
    refine Wp.path (k := 1) [0] (C := [x2 < M.1 5 0 11]) (pc' := 12) (ls' := [some (.inr (.inr (5, 0))), some (.inl x1), some (.inl x2)]) (st' := []) (M' := M) rfl c_1 ?_
    refine Wp.path (k := 3) [] (C := []) (pc' := 15) (ls' := [some (.inr (.inr (5, 0))), some (.inl x1), some (.inl x2)]) (st' := [.inl x2, .inr (.inr (5, 0)), .inl x1]) (M' := M) rfl trivial ?_
    refine Wp.call h rfl rfl (by decide) ?_
    rintro _ M1 ⟨r, rfl, h⟩
    show Wp 2 515 18 [some (.inr (.inr (5, 0))), some (.inl x1), some (.inl x2)] [.inl r, .inl x1] M1 (rI Q)
    refine Wp.path (k := 7) [] (C := [inR (2 * x2), inR ((2 * x2) + 2)]) (pc' := 27) (ls' := [some (.inr (.inr (5, 0))), some (.inl x1), some (.inl x2)]) (st' := [.inl ((2 * x2) + 2), .inr (.inr (607, 0)), .inl r, .inl x1]) (M' := M1) rfl ⟨h.1.1, h.1.2⟩ ?_
    replace h := h.2
    refine Wp.call (at_607) rfl rfl (by decide) ?_
    rintro v_ M_ ⟨eM_, ev_⟩
    rw [eM_, ev_]
    clear eM_ ev_ v_ M_
    show Wp 2 515 30 [some (.inr (.inr (5, 0))), some (.inl x1), some (.inl x2)] [.inl (atN 26 (M1.1 607 0) ((2 * x2) + 2)), .inl r, .inl x1] M1 (rI Q)
    refine Wp.path (k := 5) [] (C := [inR (r + (atN 26 (M1.1 607 0) ((2 * x2) + 2))), inR (x2 + 1)]) (pc' := 35) (ls' := [some (.inr (.inr (5, 0))), some (.inl x1), some (.inl x2)]) (st' := [.inl (x2 + 1), .inr (.inr (5, 0)), .inl (r + (atN 26 (M1.1 607 0) ((2 * x2) + 2))), .inl x1]) (M' := M1) rfl ⟨h.1.1, h.1.2⟩ ?_
    replace h := h.2
    refine Wp.call h rfl rfl (by decide) ?_
    rintro _ M1_1 ⟨r_1, rfl, h⟩
    show Wp 2 515 38 [some (.inr (.inr (5, 0))), some (.inl x1), some (.inl x2)] [.inl r_1, .inl (r + (atN 26 (M1.1 607 0) ((2 * x2) + 2))), .inl x1] M1_1 (rI Q)
    refine Wp.path (k := 3) [] (C := [inR ((r + (atN 26 (M1.1 607 0) ((2 * x2) + 2))) + r_1), inR (x1 + ((r + (atN 26 (M1.1 607 0) ((2 * x2) + 2))) + r_1))]) (pc' := 41) (ls' := [some (.inr (.inr (5, 0))), some (.inl (x1 + ((r + (atN 26 (M1.1 607 0) ((2 * x2) + 2))) + r_1))), some (.inl x2)]) (st' := []) (M' := M1_1) rfl ⟨h.1.1, h.1.2⟩ ?_
    replace h := h.2
    refine Bd (P := fun x1_1 : Int => Wp 2 515 41 [some (.inr (.inr (5, 0))), some (.inl x1_1), some (.inl x2)] [] M1_1 (rI Q)) ?_
    intro x1_1 e_x1_1
    replace h := h x1_1 e_x1_1
    refine Wp.path (k := 2) [] (C := [inR (x2 + 1)]) (pc' := 4) (ls' := [some (.inr (.inr (5, 0))), some (.inl x1_1), some (.inl (x2 + 1))]) (st' := []) (M' := M1_1) rfl h.1 ?_
    replace h := h.2
    exact h
  · replace h := h.1 c_1
    refine Wp.path (k := 1) [1] (C := [M.1 5 0 11 ≤ x2]) (pc' := 47) (ls' := [some (.inr (.inr (5, 0))), some (.inl x1), some (.inl x2)]) (st' := []) (M' := M) rfl c_1 ?_
    refine Wp.path (k := 1) [] (C := []) (pc' := 48) (ls' := [some (.inr (.inr (5, 0))), some (.inl x1), some (.inl x2)]) (st' := [.inl x1]) (M' := M) rfl trivial ?_
    exact Wp.ret rfl ⟨_, rfl, h⟩
/-- X5_faceOf -/
def E_518 (x1 : Int) (x2 : Int) (M : Mm) (Q : Int → Mm → Prop) : Prop := Ev 1 518 [.inr (.inr (5, 0)), .inl x1, .inl x2] M (rI Q)
theorem m_518 {x1 : Int} {x2 : Int} {M : Mm} {Q Q1 : Int → Mm → Prop} (h : E_518 x1 x2 M Q) (k : (∀ r M1, Q r M1 → Q1 r M1)) : E_518 x1 x2 M Q1 := Ev.mono h (fun v M1 ⟨r, h1, h2⟩ => ⟨r, h1, k _ _ h2⟩)
theorem s_518_0 {x1 : Int} {x2 : Int} {M : Mm} {Q : Int → Mm → Prop} (h : ((-2147483648 ≤ x2 * 12 ∧ x2 * 12 ≤ 2147483647) ∧ (-2147483648 ≤ (x2 * 12) + x1 ∧ (x2 * 12) + x1 ≤ 2147483647)) ∧ (Q (atN 144 (M.1 609 0) ((x2 * 12) + x1)) M)) : E_518 x1 x2 M Q := by
  show Wp 1 518 0 [some (.inr (.inr (5, 0))), some (.inl x1), some (.inl x2)] [] M (rI Q)
  refine Wp.path (k := 7) [] (C := [inR (x2 * 12), inR ((x2 * 12) + x1)]) (pc' := 10) (ls' := [some (.inr (.inr (5, 0))), some (.inl x1), some (.inl x2)]) (st' := [.inl ((x2 * 12) + x1), .inr (.inr (609, 0))]) (M' := M) rfl ⟨h.1.1, h.1.2⟩ ?_
  replace h := h.2
  refine Wp.call (at_609) rfl rfl (by decide) ?_
  rintro v_ M_ ⟨eM_, ev_⟩
  rw [eM_, ev_]
  clear eM_ ev_ v_ M_
  show Wp 1 518 13 [some (.inr (.inr (5, 0))), some (.inl x1), some (.inl x2)] [.inl (atN 144 (M.1 609 0) ((x2 * 12) + x1))] M (rI Q)
  exact Wp.ret rfl ⟨_, rfl, h⟩
/-- X5_faceSize -/
def E_520 (x1 : Int) (M : Mm) (Q : Int → Mm → Prop) : Prop := Ev 0 520 [.inr (.inr (5, 0)), .inl x1] M (rI Q)
theorem m_520 {x1 : Int} {M : Mm} {Q Q1 : Int → Mm → Prop} (h : E_520 x1 M Q) (k : (∀ r M1, Q r M1 → Q1 r M1)) : E_520 x1 M Q1 := Ev.mono h (fun v M1 ⟨r, h1, h2⟩ => ⟨r, h1, k _ _ h2⟩)
def L_520_4 (x1 : Int) (x2 : Int) (x3 : Int) (M : Mm) (Q : Int → Mm → Prop) : Prop := Wp 0 520 4 [some (.inr (.inr (5, 0))), some (.inl x1), some (.inl x2), some (.inl x3)] [] M (rI Q)
theorem s_520_0 {x1 : Int} {M : Mm} {Q : Int → Mm → Prop} (h : (L_520_4 x1 0 0 M Q)) : E_520 x1 M Q := by
  show Wp 0 520 0 [some (.inr (.inr (5, 0))), some (.inl x1), none, none] [] M (rI Q)
  refine Wp.path (k := 4) [] (C := []) (pc' := 4) (ls' := [some (.inr (.inr (5, 0))), some (.inl x1), some (.inl 0), some (.inl 0)]) (st' := []) (M' := M) rfl trivial ?_
  exact h
theorem s_520_4 {x1 : Int} {x2 : Int} {x3 : Int} {M : Mm} {Q : Int → Mm → Prop} (h : ((144 ≤ x3 → (Q x2 M)) ∧ (x3 < 144 → (((0 ≤ x3 ∧ x3 < 144)) ∧ ((M.1 609 0 x3.toNat = x1 → ((-2147483648 ≤ x2 + 1 ∧ x2 + 1 ≤ 2147483647))) ∧ (∀ x2_1 : Int, x2_1 = (if M.1 609 0 x3.toNat ≠ x1 then x2 else (x2 + 1)) → (((-2147483648 ≤ x3 + 1 ∧ x3 + 1 ≤ 2147483647)) ∧ (L_520_4 x1 x2_1 (x3 + 1) M Q)))))))) : L_520_4 x1 x2 x3 M Q := by
  show Wp 0 520 4 [some (.inr (.inr (5, 0))), some (.inl x1), some (.inl x2), some (.inl x3)] [] M (rI Q)
  refine Wp.path (k := 4) [] (C := []) (pc' := 10) (ls' := [some (.inr (.inr (5, 0))), some (.inl x1), some (.inl x2), some (.inl x3)]) (st' := [.inl 144, .inl x3]) (M' := M) rfl trivial ?_
  rcases Int.lt_or_le (x3) (144) with c_1 | c_1
  · replace h := h.2 c_1
    refine Wp.path (k := 1) [0] (C := [x3 < 144]) (pc' := 13) (ls' := [some (.inr (.inr (5, 0))), some (.inl x1), some (.inl x2), some (.inl x3)]) (st' := []) (M' := M) rfl c_1 ?_
    refine Wp.path (k := 5) [] (C := [0 ≤ x3 ∧ x3 < 144]) (pc' := 20) (ls' := [some (.inr (.inr (5, 0))), some (.inl x1), some (.inl x2), some (.inl x3)]) (st' := [.inl x1, .inl (M.1 609 0 x3.toNat)]) (M' := M) rfl h.1 ?_
    replace h := h.2
    have g2_0 := h.1
    replace h := h.2
    have k_2 : ∀ x2_1 : Int, x2_1 = (if M.1 609 0 x3.toNat ≠ x1 then x2 else (x2 + 1)) → Wp 0 520 26 [some (.inr (.inr (5, 0))), some (.inl x1), some (.inl x2_1), some (.inl x3)] [] M (rI Q) := by
      intro x2_1 e_x2_1
      replace h := h x2_1 e_x2_1
      refine Wp.path (k := 2) [] (C := [inR (x3 + 1)]) (pc' := 4) (ls' := [some (.inr (.inr (5, 0))), some (.inl x1), some (.inl x2_1), some (.inl (x3 + 1))]) (st' := []) (M' := M) rfl h.1 ?_
      replace h := h.2
      exact h
    clear h
    rcases Decidable.em (M.1 609 0 x3.toNat = x1) with c_3 | c_3
    · refine Wp.path (k := 1) [0] (C := [M.1 609 0 x3.toNat = x1]) (pc' := 23) (ls' := [some (.inr (.inr (5, 0))), some (.inl x1), some (.inl x2), some (.inl x3)]) (st' := []) (M' := M) rfl c_3 ?_
      refine Wp.path (k := 1) [] (C := [inR (x2 + 1)]) (pc' := 26) (ls' := [some (.inr (.inr (5, 0))), some (.inl x1), some (.inl (x2 + 1)), some (.inl x3)]) (st' := []) (M' := M) rfl (g2_0 c_3) ?_
      exact k_2 _ (by rw [if_neg (not_not_intro c_3)])
    · refine Wp.path (k := 1) [1] (C := [M.1 609 0 x3.toNat ≠ x1]) (pc' := 26) (ls' := [some (.inr (.inr (5, 0))), some (.inl x1), some (.inl x2), some (.inl x3)]) (st' := []) (M' := M) rfl c_3 ?_
      exact k_2 _ (by rw [if_pos c_3])
  · replace h := h.1 c_1
    refine Wp.path (k := 1) [1] (C := [144 ≤ x3]) (pc' := 32) (ls' := [some (.inr (.inr (5, 0))), some (.inl x1), some (.inl x2), some (.inl x3)]) (st' := []) (M' := M) rfl c_1 ?_
    refine Wp.path (k := 1) [] (C := []) (pc' := 33) (ls' := [some (.inr (.inr (5, 0))), some (.inl x1), some (.inl x2), some (.inl x3)]) (st' := [.inl x2]) (M' := M) rfl trivial ?_
    exact Wp.ret rfl ⟨_, rfl, h⟩
/-- X5_drives -/
def E_522 (x1 : Int) (x2 : Int) (M : Mm) (Q : Int → Mm → Prop) : Prop := Ev 2 522 [.inr (.inr (5, 0)), .inl x1, .inl x2] M (rI Q)
theorem m_522 {x1 : Int} {x2 : Int} {M : Mm} {Q Q1 : Int → Mm → Prop} (h : E_522 x1 x2 M Q) (k : (∀ r M1, Q r M1 → Q1 r M1)) : E_522 x1 x2 M Q1 := Ev.mono h (fun v M1 ⟨r, h1, h2⟩ => ⟨r, h1, k _ _ h2⟩)
def L_522_58 (x1 : Int) (x2 : Int) (i3 : Nat) (x4 : Int) (x5 : Int) (x6 : Int) (x7 : Int) (M : Mm) (Q : Int → Mm → Prop) : Prop := ∀ o8 o9 : Option Vv, Wp 2 522 58 [some (.inr (.inr (5, 0))), some (.inl x1), some (.inl x2), some (.inr (.inr (2, i3))), some (.inl x4), some (.inl x5), some (.inl x6), some (.inl x7), o8, o9] [] M (rI Q)
theorem s_522_0 {x1 : Int} {x2 : Int} {M : Mm} {Q : Int → Mm → Prop} (h : (((-2147483648 ≤ 2 * x2 ∧ 2 * x2 ≤ 2147483647) ∧ (-2147483648 ≤ (2 * x2) + 1 ∧ (2 * x2) + 1 ≤ 2147483647)) ∧ (∀ x4 : Int, x4 = (2 * x2) + 1 → (∀ x5 : Int, x5 = atN 340 (M.1 100 0) x1 → (((-2147483648 ≤ 4 * (atN 340 (M.1 101 0) x1) ∧ 4 * (atN 340 (M.1 101 0) x1) ≤ 2147483647)) ∧ ((upV x5 = 0 → ((-2147483648 ≤ -x4 ∧ -x4 ≤ 2147483647))) ∧ (∀ b : Int, b = (if upV x5 = 0 then (-x4) else x4) → (((-2147483648 ≤ (4 * (atN 340 (M.1 101 0) x1)) + b ∧ (4 * (atN 340 (M.1 101 0) x1)) + b ≤ 2147483647)) ∧ (∀ x6 : Int, x6 = (4 * (atN 340 (M.1 101 0) x1)) + b → (L_522_58 x1 x2 (phV (M.1 5 0 11) x2) x4 x5 x6 0 M Q)))))))))) : E_522 x1 x2 M Q := by
  show Wp 2 522 0 [some (.inr (.inr (5, 0))), some (.inl x1), some (.inl x2), none, none, none, none, none, none, none] [] M (rI Q)
  refine Wp.path (k := 2) [] (C := []) (pc' := 2) (ls' := [some (.inr (.inr (5, 0))), some (.inl x1), some (.inl x2), none, none, none, none, none, none, none]) (st' := [.inl x2, .inr (.inr (5, 0))]) (M' := M) rfl trivial ?_
  refine Wp.call (e503) rfl rfl (by decide) ?_
  rintro v_ M_ ⟨eM_, ev_⟩
  rw [eM_, ev_]
  clear eM_ ev_ v_ M_
  show Wp 2 522 5 [some (.inr (.inr (5, 0))), some (.inl x1), some (.inl x2), none, none, none, none, none, none, none] [.inr (.inr (3, (phV (M.1 5 0 11) x2)))] M (rI Q)
  refine Wp.path (k := 8) [] (C := [inR (2 * x2), inR ((2 * x2) + 1)]) (pc' := 16) (ls' := [some (.inr (.inr (5, 0))), some (.inl x1), some (.inl x2), some (.inr (.inr (2, (phV (M.1 5 0 11) x2)))), some (.inl ((2 * x2) + 1)), none, none, none, none, none]) (st' := []) (M' := M) rfl ⟨h.1.1, h.1.2⟩ ?_
  replace h := h.2
  refine Bd (P := fun x4 : Int => Wp 2 522 16 [some (.inr (.inr (5, 0))), some (.inl x1), some (.inl x2), some (.inr (.inr (2, (phV (M.1 5 0 11) x2)))), some (.inl x4), none, none, none, none, none] [] M (rI Q)) ?_
  intro x4 e_x4
  replace h := h x4 e_x4
  refine Wp.path (k := 3) [] (C := []) (pc' := 21) (ls' := [some (.inr (.inr (5, 0))), some (.inl x1), some (.inl x2), some (.inr (.inr (2, (phV (M.1 5 0 11) x2)))), some (.inl x4), none, none, none, none, none]) (st' := [.inl x1, .inr (.inr (0, 0))]) (M' := M) rfl trivial ?_
  refine Wp.call (e4) rfl rfl (by decide) ?_
  rintro v_ M_ ⟨eM_, ev_⟩
  rw [eM_, ev_]
  clear eM_ ev_ v_ M_
  show Wp 2 522 24 [some (.inr (.inr (5, 0))), some (.inl x1), some (.inl x2), some (.inr (.inr (2, (phV (M.1 5 0 11) x2)))), some (.inl x4), none, none, none, none, none] [.inl (atN 340 (M.1 100 0) x1)] M (rI Q)
  refine Wp.path (k := 1) [] (C := []) (pc' := 26) (ls' := [some (.inr (.inr (5, 0))), some (.inl x1), some (.inl x2), some (.inr (.inr (2, (phV (M.1 5 0 11) x2)))), some (.inl x4), some (.inl (atN 340 (M.1 100 0) x1)), none, none, none, none]) (st' := []) (M' := M) rfl trivial ?_
  refine Bd (P := fun x5 : Int => Wp 2 522 26 [some (.inr (.inr (5, 0))), some (.inl x1), some (.inl x2), some (.inr (.inr (2, (phV (M.1 5 0 11) x2)))), some (.inl x4), some (.inl x5), none, none, none, none] [] M (rI Q)) ?_
  intro x5 e_x5
  replace h := h x5 e_x5
  refine Wp.path (k := 4) [] (C := []) (pc' := 32) (ls' := [some (.inr (.inr (5, 0))), some (.inl x1), some (.inl x2), some (.inr (.inr (2, (phV (M.1 5 0 11) x2)))), some (.inl x4), some (.inl x5), none, none, none, none]) (st' := [.inl x1, .inr (.inr (0, 0)), .inl 4]) (M' := M) rfl trivial ?_
  refine Wp.call (e5) rfl rfl (by decide) ?_
  rintro v_ M_ ⟨eM_, ev_⟩
  rw [eM_, ev_]
  clear eM_ ev_ v_ M_
  show Wp 2 522 35 [some (.inr (.inr (5, 0))), some (.inl x1), some (.inl x2), some (.inr (.inr (2, (phV (M.1 5 0 11) x2)))), some (.inl x4), some (.inl x5), none, none, none, none] [.inl (atN 340 (M.1 101 0) x1), .inl 4] M (rI Q)
  refine Wp.path (k := 2) [] (C := [inR (4 * (atN 340 (M.1 101 0) x1))]) (pc' := 38) (ls' := [some (.inr (.inr (5, 0))), some (.inl x1), some (.inl x2), some (.inr (.inr (2, (phV (M.1 5 0 11) x2)))), some (.inl x4), some (.inl x5), none, none, none, none]) (st' := [.inl x5, .inl (4 * (atN 340 (M.1 101 0) x1))]) (M' := M) rfl h.1 ?_
  replace h := h.2
  refine Wp.call (e941) rfl rfl (by decide) ?_
  rintro v_ M_ ⟨eM_, ev_⟩
  rw [eM_, ev_]
  clear eM_ ev_ v_ M_
  show Wp 2 522 41 [some (.inr (.inr (5, 0))), some (.inl x1), some (.inl x2), some (.inr (.inr (2, (phV (M.1 5 0 11) x2)))), some (.inl x4), some (.inl x5), none, none, none, none] [.inl (upV x5), .inl (4 * (atN 340 (M.1 101 0) x1))] M (rI Q)
  have g1_0 := h.1
  replace h := h.2
  have k_1 : ∀ b : Int, b = (if upV x5 = 0 then (-x4) else x4) → Wp 2 522 52 [some (.inr (.inr (5, 0))), some (.inl x1), some (.inl x2), some (.inr (.inr (2, (phV (M.1 5 0 11) x2)))), some (.inl x4), some (.inl x5), none, none, none, none] [.inl b, .inl (4 * (atN 340 (M.1 101 0) x1))] M (rI Q) := by
    intro b e_b
    replace h := h b e_b
    refine Wp.path (k := 2) [] (C := [inR ((4 * (atN 340 (M.1 101 0) x1)) + b)]) (pc' := 55) (ls' := [some (.inr (.inr (5, 0))), some (.inl x1), some (.inl x2), some (.inr (.inr (2, (phV (M.1 5 0 11) x2)))), some (.inl x4), some (.inl x5), some (.inl ((4 * (atN 340 (M.1 101 0) x1)) + b)), none, none, none]) (st' := []) (M' := M) rfl h.1 ?_
    replace h := h.2
    refine Bd (P := fun x6 : Int => Wp 2 522 55 [some (.inr (.inr (5, 0))), some (.inl x1), some (.inl x2), some (.inr (.inr (2, (phV (M.1 5 0 11) x2)))), some (.inl x4), some (.inl x5), some (.inl x6), none, none, none] [] M (rI Q)) ?_
    intro x6 e_x6
    replace h := h x6 e_x6
    refine Wp.path (k := 2) [] (C := []) (pc' := 58) (ls' := [some (.inr (.inr (5, 0))), some (.inl x1), some (.inl x2), some (.inr (.inr (2, (phV (M.1 5 0 11) x2)))), some (.inl x4), some (.inl x5), some (.inl x6), some (.inl 0), none, none]) (st' := []) (M' := M) rfl trivial ?_
    exact h _ _
  clear h
  rcases Decidable.em (upV x5 = 0) with c_2 | c_2
  · refine Wp.path (k := 1) [1] (C := [upV x5 = 0]) (pc' := 49) (ls' := [some (.inr (.inr (5, 0))), some (.inl x1), some (.inl x2), some (.inr (.inr (2, (phV (M.1 5 0 11) x2)))), some (.inl x4), some (.inl x5), none, none, none, none]) (st' := [.inl (4 * (atN 340 (M.1 101 0) x1))]) (M' := M) rfl c_2 ?_
    refine Wp.path (k := 2) [] (C := [inR (-x4)]) (pc' := 52) (ls' := [some (.inr (.inr (5, 0))), some (.inl x1), some (.inl x2), some (.inr (.inr (2, (phV (M.1 5 0 11) x2)))), some (.inl x4), some (.inl x5), none, none, none, none]) (st' := [.inl (-x4), .inl (4 * (atN 340 (M.1 101 0) x1))]) (M' := M) rfl (g1_0 c_2) ?_
    exact k_1 _ (by rw [if_pos c_2])
  · refine Wp.path (k := 1) [0] (C := [upV x5 ≠ 0]) (pc' := 44) (ls' := [some (.inr (.inr (5, 0))), some (.inl x1), some (.inl x2), some (.inr (.inr (2, (phV (M.1 5 0 11) x2)))), some (.inl x4), some (.inl x5), none, none, none, none]) (st' := [.inl (4 * (atN 340 (M.1 101 0) x1))]) (M' := M) rfl c_2 ?_
    refine Wp.path (k := 2) [] (C := []) (pc' := 52) (ls' := [some (.inr (.inr (5, 0))), some (.inl x1), some (.inl x2), some (.inr (.inr (2, (phV (M.1 5 0 11) x2)))), some (.inl x4), some (.inl x5), none, none, none, none]) (st' := [.inl x4, .inl (4 * (atN 340 (M.1 101 0) x1))]) (M' := M) rfl trivial ?_
    exact k_1 _ (by rw [if_neg c_2])
theorem s_522_58 {x1 : Int} {x2 : Int} {i3 : Nat} {x4 : Int} {x5 : Int} {x6 : Int} {x7 : Int} {M : Mm} {Q : Int → Mm → Prop} (h : ((M.1 2 i3 13 ≤ x7 → (Q 0 M)) ∧ (x7 < M.1 2 i3 13 → (((-2147483648 ≤ (atN 340 (M.1 307 i3) x7) - x4 ∧ (atN 340 (M.1 307 i3) x7) - x4 ≤ 2147483647) ∧ (-2147483648 ≤ 2 * ((atN 340 (M.1 307 i3) x7) - x4) ∧ 2 * ((atN 340 (M.1 307 i3) x7) - x4) ≤ 2147483647)) ∧ (∀ x8 : Int, x8 = 2 * ((atN 340 (M.1 307 i3) x7) - x4) → (((-2147483648 ≤ (atN 340 (M.1 308 i3) x7) + x4 ∧ (atN 340 (M.1 308 i3) x7) + x4 ≤ 2147483647) ∧ (-2147483648 ≤ 2 * ((atN 340 (M.1 308 i3) x7) + x4) ∧ 2 * ((atN 340 (M.1 308 i3) x7) + x4) ≤ 2147483647)) ∧ (∀ x9 : Int, x9 = 2 * ((atN 340 (M.1 308 i3) x7) + x4) → ((atN 340 (M.1 305 i3) x7 ≠ x5 → (((-2147483648 ≤ x7 + 1 ∧ x7 + 1 ≤ 2147483647)) ∧ (L_522_58 x1 x2 i3 x4 x5 x6 (x7 + 1) M Q))) ∧ (atN 340 (M.1 305 i3) x7 = x5 → ((atN 340 (M.1 306 i3) x7 ≠ x6 → (((-2147483648 ≤ x7 + 1 ∧ x7 + 1 ≤ 2147483647)) ∧ (L_522_58 x1 x2 i3 x4 x5 x6 (x7 + 1) M Q))) ∧ (atN 340 (M.1 306 i3) x7 = x6 → ((inR (8 * atN 340 (M.1 103 0) x1) ∧ inR (8 * atN 340 (M.1 102 0) x1)) ∧ ((ovV (M.1 102 0) (M.1 103 0) x1 x8 x9 = 0 → (((-2147483648 ≤ x7 + 1 ∧ x7 + 1 ≤ 2147483647)) ∧ (L_522_58 x1 x2 i3 x4 x5 x6 (x7 + 1) M Q))) ∧ (ovV (M.1 102 0) (M.1 103 0) x1 x8 x9 ≠ 0 → (Q 1 M))))))))))))))) : L_522_58 x1 x2 i3 x4 x5 x6 x7 M Q := by
  intro o8 o9
  show Wp 2 522 58 [some (.inr (.inr (5, 0))), some (.inl x1), some (.inl x2), some (.inr (.inr (2, i3))), some (.inl x4), some (.inl x5), some (.inl x6), some (.inl x7), o8, o9] [] M (rI Q)
  refine Wp.path (k := 3) [] (C := []) (pc' := 64) (ls' := [some (.inr (.inr (5, 0))), some (.inl x1), some (.inl x2), some (.inr (.inr (2, i3))), some (.inl x4), some (.inl x5), some (.inl x6), some (.inl x7), o8, o9]) (st' := [.inl (M.1 2 i3 13), .inl x7]) (M' := M) rfl trivial ?_
  rcases Int.lt_or_le (x7) (M.1 2 i3 13) with c_1 | c_1
  · replace h := h.2 c_1
    refine Wp.path (k := 1) [0] (C := [x7 < M.1 2 i3 13]) (pc' := 67) (ls' := [some (.inr (.inr (5, 0))), some (.inl x1), some (.inl x2), some (.inr (.inr (2, i3))), some (.inl x4), some (.inl x5), some (.inl x6), some (.inl x7), o8, o9]) (st' := []) (M' := M) rfl c_1 ?_
    refine Wp.path (k := 3) [] (C := []) (pc' := 71) (ls' := [some (.inr (.inr (5, 0))), some (.inl x1), some (.inl x2), some (.inr (.inr (2, i3))), some (.inl x4), some (.inl x5), some (.inl x6), some (.inl x7), o8, o9]) (st' := [.inl x7, .inr (.inr (2, i3)), .inl 2]) (M' := M) rfl trivial ?_
    refine Wp.call (e214) rfl rfl (by decide) ?_
    rintro v_ M_ ⟨eM_, ev_⟩
    rw [eM_, ev_]
    clear eM_ ev_ v_ M_
    show Wp 2 522 74 [some (.inr (.inr (5, 0))), some (.inl x1), some (.inl x2), some (.inr (.inr (2, i3))), some (.inl x4), some (.inl x5), some (.inl x6), some (.inl x7), o8, o9] [.inl (atN 340 (M.1 307 i3) x7), .inl 2] M (rI Q)
    refine Wp.path (k := 4) [] (C := [inR ((atN 340 (M.1 307 i3) x7) - x4), inR (2 * ((atN 340 (M.1 307 i3) x7) - x4))]) (pc' := 80) (ls' := [some (.inr (.inr (5, 0))), some (.inl x1), some (.inl x2), some (.inr (.inr (2, i3))), some (.inl x4), some (.inl x5), some (.inl x6), some (.inl x7), some (.inl (2 * ((atN 340 (M.1 307 i3) x7) - x4))), o9]) (st' := []) (M' := M) rfl ⟨h.1.1, h.1.2⟩ ?_
    replace h := h.2
    refine Bd (P := fun x8 : Int => Wp 2 522 80 [some (.inr (.inr (5, 0))), some (.inl x1), some (.inl x2), some (.inr (.inr (2, i3))), some (.inl x4), some (.inl x5), some (.inl x6), some (.inl x7), some (.inl x8), o9] [] M (rI Q)) ?_
    intro x8 e_x8
    replace h := h x8 e_x8
    refine Wp.path (k := 3) [] (C := []) (pc' := 84) (ls' := [some (.inr (.inr (5, 0))), some (.inl x1), some (.inl x2), some (.inr (.inr (2, i3))), some (.inl x4), some (.inl x5), some (.inl x6), some (.inl x7), some (.inl x8), o9]) (st' := [.inl x7, .inr (.inr (2, i3)), .inl 2]) (M' := M) rfl trivial ?_
    refine Wp.call (e215) rfl rfl (by decide) ?_
    rintro v_ M_ ⟨eM_, ev_⟩
    rw [eM_, ev_]
    clear eM_ ev_ v_ M_
    show Wp 2 522 87 [some (.inr (.inr (5, 0))), some (.inl x1), some (.inl x2), some (.inr (.inr (2, i3))), some (.inl x4), some (.inl x5), some (.inl x6), some (.inl x7), some (.inl x8), o9] [.inl (atN 340 (M.1 308 i3) x7), .inl 2] M (rI Q)
    refine Wp.path (k := 4) [] (C := [inR ((atN 340 (M.1 308 i3) x7) + x4), inR (2 * ((atN 340 (M.1 308 i3) x7) + x4))]) (pc' := 93) (ls' := [some (.inr (.inr (5, 0))), some (.inl x1), some (.inl x2), some (.inr (.inr (2, i3))), some (.inl x4), some (.inl x5), some (.inl x6), some (.inl x7), some (.inl x8), some (.inl (2 * ((atN 340 (M.1 308 i3) x7) + x4)))]) (st' := []) (M' := M) rfl ⟨h.1.1, h.1.2⟩ ?_
    replace h := h.2
    refine Bd (P := fun x9 : Int => Wp 2 522 93 [some (.inr (.inr (5, 0))), some (.inl x1), some (.inl x2), some (.inr (.inr (2, i3))), some (.inl x4), some (.inl x5), some (.inl x6), some (.inl x7), some (.inl x8), some (.inl x9)] [] M (rI Q)) ?_
    intro x9 e_x9
    replace h := h x9 e_x9
    refine Wp.path (k := 2) [] (C := []) (pc' := 96) (ls' := [some (.inr (.inr (5, 0))), some (.inl x1), some (.inl x2), some (.inr (.inr (2, i3))), some (.inl x4), some (.inl x5), some (.inl x6), some (.inl x7), some (.inl x8), some (.inl x9)]) (st' := [.inl x7, .inr (.inr (2, i3))]) (M' := M) rfl trivial ?_
    refine Wp.call (e212) rfl rfl (by decide) ?_
    rintro v_ M_ ⟨eM_, ev_⟩
    rw [eM_, ev_]
    clear eM_ ev_ v_ M_
    show Wp 2 522 99 [some (.inr (.inr (5, 0))), some (.inl x1), some (.inl x2), some (.inr (.inr (2, i3))), some (.inl x4), some (.inl x5), some (.inl x6), some (.inl x7), some (.inl x8), some (.inl x9)] [.inl (atN 340 (M.1 305 i3) x7)] M (rI Q)
    refine Wp.path (k := 1) [] (C := []) (pc' := 101) (ls' := [some (.inr (.inr (5, 0))), some (.inl x1), some (.inl x2), some (.inr (.inr (2, i3))), some (.inl x4), some (.inl x5), some (.inl x6), some (.inl x7), some (.inl x8), some (.inl x9)]) (st' := [.inl x5, .inl (atN 340 (M.1 305 i3) x7)]) (M' := M) rfl trivial ?_
    rcases Decidable.em (atN 340 (M.1 305 i3) x7 = x5) with c_2 | c_2
    · replace h := h.2 c_2
      refine Wp.path (k := 1) [0] (C := [atN 340 (M.1 305 i3) x7 = x5]) (pc' := 104) (ls' := [some (.inr (.inr (5, 0))), some (.inl x1), some (.inl x2), some (.inr (.inr (2, i3))), some (.inl x4), some (.inl x5), some (.inl x6), some (.inl x7), some (.inl x8), some (.inl x9)]) (st' := []) (M' := M) rfl c_2 ?_
      refine Wp.path (k := 2) [] (C := []) (pc' := 107) (ls' := [some (.inr (.inr (5, 0))), some (.inl x1), some (.inl x2), some (.inr (.inr (2, i3))), some (.inl x4), some (.inl x5), some (.inl x6), some (.inl x7), some (.inl x8), some (.inl x9)]) (st' := [.inl x7, .inr (.inr (2, i3))]) (M' := M) rfl trivial ?_
      refine Wp.call (e213) rfl rfl (by decide) ?_
      rintro v_ M_ ⟨eM_, ev_⟩
      rw [eM_, ev_]
      clear eM_ ev_ v_ M_
      show Wp 2 522 110 [some (.inr (.inr (5, 0))), some (.inl x1), some (.inl x2), some (.inr (.inr (2, i3))), some (.inl x4), some (.inl x5), some (.inl x6), some (.inl x7), some (.inl x8), some (.inl x9)] [.inl (atN 340 (M.1 306 i3) x7)] M (rI Q)
      refine Wp.path (k := 1) [] (C := []) (pc' := 112) (ls' := [some (.inr (.inr (5, 0))), some (.inl x1), some (.inl x2), some (.inr (.inr (2, i3))), some (.inl x4), some (.inl x5), some (.inl x6), some (.inl x7), some (.inl x8), some (.inl x9)]) (st' := [.inl x6, .inl (atN 340 (M.1 306 i3) x7)]) (M' := M) rfl trivial ?_
      rcases Decidable.em (atN 340 (M.1 306 i3) x7 = x6) with c_3 | c_3
      · replace h := h.2 c_3
        refine Wp.path (k := 1) [0] (C := [atN 340 (M.1 306 i3) x7 = x6]) (pc' := 115) (ls' := [some (.inr (.inr (5, 0))), some (.inl x1), some (.inl x2), some (.inr (.inr (2, i3))), some (.inl x4), some (.inl x5), some (.inl x6), some (.inl x7), some (.inl x8), some (.inl x9)]) (st' := []) (M' := M) rfl c_3 ?_
        refine Wp.path (k := 5) [] (C := []) (pc' := 124) (ls' := [some (.inr (.inr (5, 0))), some (.inl x1), some (.inl x2), some (.inr (.inr (2, i3))), some (.inl x4), some (.inl x5), some (.inl x6), some (.inl x7), some (.inl x8), some (.inl x9)]) (st' := [.inl x9, .inl x8, .inl x1, .inr (.inr (0, 0))]) (M' := M) rfl trivial ?_
        refine Wp.call (e8 h.1.1 h.1.2) rfl rfl (by decide) ?_
        replace h := h.2
        rintro v_ M_ ⟨eM_, ev_⟩
        rw [eM_, ev_]
        clear eM_ ev_ v_ M_
        show Wp 2 522 127 [some (.inr (.inr (5, 0))), some (.inl x1), some (.inl x2), some (.inr (.inr (2, i3))), some (.inl x4), some (.inl x5), some (.inl x6), some (.inl x7), some (.inl x8), some (.inl x9)] [.inl (ovV (M.1 102 0) (M.1 103 0) x1 x8 x9)] M (rI Q)
        rcases Decidable.em (ovV (M.1 102 0) (M.1 103 0) x1 x8 x9 = 0) with c_4 | c_4
        · replace h := h.1 c_4
          refine Wp.path (k := 1) [1] (C := [ovV (M.1 102 0) (M.1 103 0) x1 x8 x9 = 0]) (pc' := 132) (ls' := [some (.inr (.inr (5, 0))), some (.inl x1), some (.inl x2), some (.inr (.inr (2, i3))), some (.inl x4), some (.inl x5), some (.inl x6), some (.inl x7), some (.inl x8), some (.inl x9)]) (st' := []) (M' := M) rfl c_4 ?_
          refine Wp.path (k := 2) [] (C := [inR (x7 + 1)]) (pc' := 58) (ls' := [some (.inr (.inr (5, 0))), some (.inl x1), some (.inl x2), some (.inr (.inr (2, i3))), some (.inl x4), some (.inl x5), some (.inl x6), some (.inl (x7 + 1)), some (.inl x8), some (.inl x9)]) (st' := []) (M' := M) rfl h.1 ?_
          replace h := h.2
          exact h _ _
        · replace h := h.2 c_4
          refine Wp.path (k := 1) [0] (C := [ovV (M.1 102 0) (M.1 103 0) x1 x8 x9 ≠ 0]) (pc' := 130) (ls' := [some (.inr (.inr (5, 0))), some (.inl x1), some (.inl x2), some (.inr (.inr (2, i3))), some (.inl x4), some (.inl x5), some (.inl x6), some (.inl x7), some (.inl x8), some (.inl x9)]) (st' := []) (M' := M) rfl c_4 ?_
          refine Wp.path (k := 1) [] (C := []) (pc' := 131) (ls' := [some (.inr (.inr (5, 0))), some (.inl x1), some (.inl x2), some (.inr (.inr (2, i3))), some (.inl x4), some (.inl x5), some (.inl x6), some (.inl x7), some (.inl x8), some (.inl x9)]) (st' := [.inl 1]) (M' := M) rfl trivial ?_
          exact Wp.ret rfl ⟨_, rfl, h⟩
      · replace h := h.1 c_3
        refine Wp.path (k := 1) [1] (C := [atN 340 (M.1 306 i3) x7 ≠ x6]) (pc' := 132) (ls' := [some (.inr (.inr (5, 0))), some (.inl x1), some (.inl x2), some (.inr (.inr (2, i3))), some (.inl x4), some (.inl x5), some (.inl x6), some (.inl x7), some (.inl x8), some (.inl x9)]) (st' := []) (M' := M) rfl c_3 ?_
        refine Wp.path (k := 2) [] (C := [inR (x7 + 1)]) (pc' := 58) (ls' := [some (.inr (.inr (5, 0))), some (.inl x1), some (.inl x2), some (.inr (.inr (2, i3))), some (.inl x4), some (.inl x5), some (.inl x6), some (.inl (x7 + 1)), some (.inl x8), some (.inl x9)]) (st' := []) (M' := M) rfl h.1 ?_
        replace h := h.2
        exact h _ _
    · replace h := h.1 c_2
      refine Wp.path (k := 1) [1] (C := [atN 340 (M.1 305 i3) x7 ≠ x5]) (pc' := 132) (ls' := [some (.inr (.inr (5, 0))), some (.inl x1), some (.inl x2), some (.inr (.inr (2, i3))), some (.inl x4), some (.inl x5), some (.inl x6), some (.inl x7), some (.inl x8), some (.inl x9)]) (st' := []) (M' := M) rfl c_2 ?_
      refine Wp.path (k := 2) [] (C := [inR (x7 + 1)]) (pc' := 58) (ls' := [some (.inr (.inr (5, 0))), some (.inl x1), some (.inl x2), some (.inr (.inr (2, i3))), some (.inl x4), some (.inl x5), some (.inl x6), some (.inl (x7 + 1)), some (.inl x8), some (.inl x9)]) (st' := []) (M' := M) rfl h.1 ?_
      replace h := h.2
      exact h _ _
  · replace h := h.1 c_1
    refine Wp.path (k := 1) [1] (C := [M.1 2 i3 13 ≤ x7]) (pc' := 138) (ls' := [some (.inr (.inr (5, 0))), some (.inl x1), some (.inl x2), some (.inr (.inr (2, i3))), some (.inl x4), some (.inl x5), some (.inl x6), some (.inl x7), o8, o9]) (st' := []) (M' := M) rfl c_1 ?_
    refine Wp.path (k := 1) [] (C := []) (pc' := 139) (ls' := [some (.inr (.inr (5, 0))), some (.inl x1), some (.inl x2), some (.inr (.inr (2, i3))), some (.inl x4), some (.inl x5), some (.inl x6), some (.inl x7), o8, o9]) (st' := [.inl 0]) (M' := M) rfl trivial ?_
    exact Wp.ret rfl ⟨_, rfl, h⟩
/-- X5_extinction -/
def E_521 (x1 : Int) (M : Mm) (Q : Int → Mm → Prop) : Prop := Ev 3 521 [.inr (.inr (5, 0)), .inl x1] M (rI Q)
theorem m_521 {x1 : Int} {M : Mm} {Q Q1 : Int → Mm → Prop} (h : E_521 x1 M Q) (k : (∀ r M1, Q r M1 → Q1 r M1)) : E_521 x1 M Q1 := Ev.mono h (fun v M1 ⟨r, h1, h2⟩ => ⟨r, h1, k _ _ h2⟩)
def L_521_2 (x1 : Int) (x2 : Int) (M : Mm) (Q : Int → Mm → Prop) : Prop := Wp 3 521 2 [some (.inr (.inr (5, 0))), some (.inl x1), some (.inl x2)] [] M (rI Q)
theorem s_521_0 {x1 : Int} {M : Mm} {Q : Int → Mm → Prop} (h : (L_521_2 x1 0 M Q)) : E_521 x1 M Q := by
  show Wp 3 521 0 [some (.inr (.inr (5, 0))), some (.inl x1), none] [] M (rI Q)
  refine Wp.path (k := 2) [] (C := []) (pc' := 2) (ls' := [some (.inr (.inr (5, 0))), some (.inl x1), some (.inl 0)]) (st' := []) (M' := M) rfl trivial ?_
  exact h
theorem s_521_2 {x1 : Int} {x2 : Int} {M : Mm} {Q : Int → Mm → Prop} (h : ((M.1 5 0 11 ≤ x2 → (Q (M.1 5 0 11) M)) ∧ (x2 < M.1 5 0 11 → (E_522 x1 x2 M (fun (r : Int) (M1 : Mm) => ((r ≠ 0 → (((-2147483648 ≤ x2 + 1 ∧ x2 + 1 ≤ 2147483647)) ∧ (L_521_2 x1 (x2 + 1) M1 Q))) ∧ (r = 0 → (Q x2 M1)))))))) : L_521_2 x1 x2 M Q := by
  show Wp 3 521 2 [some (.inr (.inr (5, 0))), some (.inl x1), some (.inl x2)] [] M (rI Q)
  refine Wp.path (k := 3) [] (C := []) (pc' := 7) (ls' := [some (.inr (.inr (5, 0))), some (.inl x1), some (.inl x2)]) (st' := [.inl (M.1 5 0 11), .inl x2]) (M' := M) rfl trivial ?_
  rcases Int.lt_or_le (x2) (M.1 5 0 11) with c_1 | c_1
  · replace h := h.2 c_1
    refine Wp.path (k := 1) [0] (C := [x2 < M.1 5 0 11]) (pc' := 10) (ls' := [some (.inr (.inr (5, 0))), some (.inl x1), some (.inl x2)]) (st' := []) (M' := M) rfl c_1 ?_
    refine Wp.path (k := 3) [] (C := []) (pc' := 13) (ls' := [some (.inr (.inr (5, 0))), some (.inl x1), some (.inl x2)]) (st' := [.inl x2, .inl x1, .inr (.inr (5, 0))]) (M' := M) rfl trivial ?_
    refine Wp.call h rfl rfl (by decide) ?_
    rintro _ M1 ⟨r, rfl, h⟩
    show Wp 3 521 16 [some (.inr (.inr (5, 0))), some (.inl x1), some (.inl x2)] [.inl r] M1 (rI Q)
    rcases Decidable.em (r = 0) with c_2 | c_2
    · replace h := h.2 c_2
      refine Wp.path (k := 1) [0] (C := [r = 0]) (pc' := 19) (ls' := [some (.inr (.inr (5, 0))), some (.inl x1), some (.inl x2)]) (st' := []) (M' := M1) rfl c_2 ?_
      refine Wp.path (k := 1) [] (C := []) (pc' := 20) (ls' := [some (.inr (.inr (5, 0))), some (.inl x1), some (.inl x2)]) (st' := [.inl x2]) (M' := M1) rfl trivial ?_
      exact Wp.ret rfl ⟨_, rfl, h⟩
    · replace h := h.1 c_2
      refine Wp.path (k := 1) [1] (C := [r ≠ 0]) (pc' := 21) (ls' := [some (.inr (.inr (5, 0))), some (.inl x1), some (.inl x2)]) (st' := []) (M' := M1) rfl c_2 ?_
      refine Wp.path (k := 2) [] (C := [inR (x2 + 1)]) (pc' := 2) (ls' := [some (.inr (.inr (5, 0))), some (.inl x1), some (.inl (x2 + 1))]) (st' := []) (M' := M1) rfl h.1 ?_
      replace h := h.2
      exact h
  · replace h := h.1 c_1
    refine Wp.path (k := 1) [1] (C := [M.1 5 0 11 ≤ x2]) (pc' := 27) (ls' := [some (.inr (.inr (5, 0))), some (.inl x1), some (.inl x2)]) (st' := []) (M' := M) rfl c_1 ?_
    refine Wp.path (k := 2) [] (C := []) (pc' := 31) (ls' := [some (.inr (.inr (5, 0))), some (.inl x1), some (.inl x2)]) (st' := [.inl (M.1 5 0 11)]) (M' := M) rfl trivial ?_
    exact Wp.ret rfl ⟨_, rfl, h⟩
/-- X5_edgeProperty -/
def E_519 (x1 : Int) (x2 : Int) (M : Mm) (Q : Int → Mm → Prop) : Prop := Ev 4 519 [.inr (.inr (5, 0)), .inl x1, .inl x2] M (rI Q)
theorem m_519 {x1 : Int} {x2 : Int} {M : Mm} {Q Q1 : Int → Mm → Prop} (h : E_519 x1 x2 M Q) (k : (∀ r M1, Q r M1 → Q1 r M1)) : E_519 x1 x2 M Q1 := Ev.mono h (fun v M1 ⟨r, h1, h2⟩ => ⟨r, h1, k _ _ h2⟩)
theorem s_519_0 {x1 : Int} {x2 : Int} {M : Mm} {Q : Int → Mm → Prop} (h : ((x2 = 0 → (Q (atN 340 (M.1 100 0) x1) M)) ∧ (x2 = 1 → (Q (atN 340 (M.1 101 0) x1) M)) ∧ (x2 = 2 → (Q (atN 340 (M.1 102 0) x1) M)) ∧ (x2 = 3 → (Q (atN 340 (M.1 103 0) x1) M)) ∧ (x2 = 4 → (E_211 (phV (M.1 5 0 11) 0) x1 M (fun (r : Int) (M1 : Mm) => (Q r M1)))) ∧ (x2 = 5 → (E_520 x1 M (fun (r_1 : Int) (M1_1 : Mm) => (Q r_1 M1_1)))) ∧ (x2 ≠ 0 ∧ x2 ≠ 1 ∧ x2 ≠ 2 ∧ x2 ≠ 3 ∧ x2 ≠ 4 ∧ x2 ≠ 5 → (E_521 x1 M (fun (r_2 : Int) (M1_2 : Mm) => (Q r_2 M1_2)))))) : E_519 x1 x2 M Q := by
  show Wp 4 519 0 [some (.inr (.inr (5, 0))), some (.inl x1), some (.inl x2)] [] M (rI Q)
  refine Wp.path (k := 1) [] (C := []) (pc' := 1) (ls' := [some (.inr (.inr (5, 0))), some (.inl x1), some (.inl x2)]) (st' := [.inl x2]) (M' := M) rfl trivial ?_
  rcases Decidable.em (x2 = 0) with c_1 | c_1
  · replace h := h.1 c_1
    refine Wp.path (k := 1) [40] (C := [tswT 1 94 0 5 #[39, 48, 57, 66, 75, 88] x2 = 40]) (pc' := 40) (ls' := [some (.inr (.inr (5, 0))), some (.inl x1), some (.inl x2)]) (st' := []) (M' := M) rfl (by rw [c_1]; rfl) ?_
    refine Wp.path (k := 3) [] (C := []) (pc' := 45) (ls' := [some (.inr (.inr (5, 0))), some (.inl x1), some (.inl x2)]) (st' := [.inl x1, .inr (.inr (0, 0))]) (M' := M) rfl trivial ?_
    refine Wp.call (e4) rfl rfl (by decide) ?_
    rintro v_ M_ ⟨eM_, ev_⟩
    rw [eM_, ev_]
    clear eM_ ev_ v_ M_
    show Wp 4 519 48 [some (.inr (.inr (5, 0))), some (.inl x1), some (.inl x2)] [.inl (atN 340 (M.1 100 0) x1)] M (rI Q)
    exact Wp.ret rfl ⟨_, rfl, h⟩
  replace h := h.2
  rcases Decidable.em (x2 = 1) with c_2 | c_2
  · replace h := h.1 c_2
    refine Wp.path (k := 1) [49] (C := [tswT 1 94 0 5 #[39, 48, 57, 66, 75, 88] x2 = 49]) (pc' := 49) (ls' := [some (.inr (.inr (5, 0))), some (.inl x1), some (.inl x2)]) (st' := []) (M' := M) rfl (by rw [c_2]; rfl) ?_
    refine Wp.path (k := 3) [] (C := []) (pc' := 54) (ls' := [some (.inr (.inr (5, 0))), some (.inl x1), some (.inl x2)]) (st' := [.inl x1, .inr (.inr (0, 0))]) (M' := M) rfl trivial ?_
    refine Wp.call (e5) rfl rfl (by decide) ?_
    rintro v_ M_ ⟨eM_, ev_⟩
    rw [eM_, ev_]
    clear eM_ ev_ v_ M_
    show Wp 4 519 57 [some (.inr (.inr (5, 0))), some (.inl x1), some (.inl x2)] [.inl (atN 340 (M.1 101 0) x1)] M (rI Q)
    exact Wp.ret rfl ⟨_, rfl, h⟩
  replace h := h.2
  rcases Decidable.em (x2 = 2) with c_3 | c_3
  · replace h := h.1 c_3
    refine Wp.path (k := 1) [58] (C := [tswT 1 94 0 5 #[39, 48, 57, 66, 75, 88] x2 = 58]) (pc' := 58) (ls' := [some (.inr (.inr (5, 0))), some (.inl x1), some (.inl x2)]) (st' := []) (M' := M) rfl (by rw [c_3]; rfl) ?_
    refine Wp.path (k := 3) [] (C := []) (pc' := 63) (ls' := [some (.inr (.inr (5, 0))), some (.inl x1), some (.inl x2)]) (st' := [.inl x1, .inr (.inr (0, 0))]) (M' := M) rfl trivial ?_
    refine Wp.call (e6) rfl rfl (by decide) ?_
    rintro v_ M_ ⟨eM_, ev_⟩
    rw [eM_, ev_]
    clear eM_ ev_ v_ M_
    show Wp 4 519 66 [some (.inr (.inr (5, 0))), some (.inl x1), some (.inl x2)] [.inl (atN 340 (M.1 102 0) x1)] M (rI Q)
    exact Wp.ret rfl ⟨_, rfl, h⟩
  replace h := h.2
  rcases Decidable.em (x2 = 3) with c_4 | c_4
  · replace h := h.1 c_4
    refine Wp.path (k := 1) [67] (C := [tswT 1 94 0 5 #[39, 48, 57, 66, 75, 88] x2 = 67]) (pc' := 67) (ls' := [some (.inr (.inr (5, 0))), some (.inl x1), some (.inl x2)]) (st' := []) (M' := M) rfl (by rw [c_4]; rfl) ?_
    refine Wp.path (k := 3) [] (C := []) (pc' := 72) (ls' := [some (.inr (.inr (5, 0))), some (.inl x1), some (.inl x2)]) (st' := [.inl x1, .inr (.inr (0, 0))]) (M' := M) rfl trivial ?_
    refine Wp.call (e7) rfl rfl (by decide) ?_
    rintro v_ M_ ⟨eM_, ev_⟩
    rw [eM_, ev_]
    clear eM_ ev_ v_ M_
    show Wp 4 519 75 [some (.inr (.inr (5, 0))), some (.inl x1), some (.inl x2)] [.inl (atN 340 (M.1 103 0) x1)] M (rI Q)
    exact Wp.ret rfl ⟨_, rfl, h⟩
  replace h := h.2
  rcases Decidable.em (x2 = 4) with c_5 | c_5
  · replace h := h.1 c_5
    refine Wp.path (k := 1) [76] (C := [tswT 1 94 0 5 #[39, 48, 57, 66, 75, 88] x2 = 76]) (pc' := 76) (ls' := [some (.inr (.inr (5, 0))), some (.inl x1), some (.inl x2)]) (st' := []) (M' := M) rfl (by rw [c_5]; rfl) ?_
    refine Wp.path (k := 2) [] (C := []) (pc' := 78) (ls' := [some (.inr (.inr (5, 0))), some (.inl x1), some (.inl x2)]) (st' := [.inl 0, .inr (.inr (5, 0))]) (M' := M) rfl trivial ?_
    refine Wp.call (e503) rfl rfl (by decide) ?_
    rintro v_ M_ ⟨eM_, ev_⟩
    rw [eM_, ev_]
    clear eM_ ev_ v_ M_
    show Wp 4 519 81 [some (.inr (.inr (5, 0))), some (.inl x1), some (.inl x2)] [.inr (.inr (3, (phV (M.1 5 0 11) 0)))] M (rI Q)
    refine Wp.path (k := 2) [] (C := []) (pc' := 85) (ls' := [some (.inr (.inr (5, 0))), some (.inl x1), some (.inl x2)]) (st' := [.inl x1, .inr (.inr (2, (phV (M.1 5 0 11) 0)))]) (M' := M) rfl trivial ?_
    refine Wp.call h rfl rfl (by decide) ?_
    rintro _ M1 ⟨r, rfl, h⟩
    show Wp 4 519 88 [some (.inr (.inr (5, 0))), some (.inl x1), some (.inl x2)] [.inl r] M1 (rI Q)
    exact Wp.ret rfl ⟨_, rfl, h⟩
  replace h := h.2
  rcases Decidable.em (x2 = 5) with c_6 | c_6
  · replace h := h.1 c_6
    refine Wp.path (k := 1) [89] (C := [tswT 1 94 0 5 #[39, 48, 57, 66, 75, 88] x2 = 89]) (pc' := 89) (ls' := [some (.inr (.inr (5, 0))), some (.inl x1), some (.inl x2)]) (st' := []) (M' := M) rfl (by rw [c_6]; rfl) ?_
    refine Wp.path (k := 2) [] (C := []) (pc' := 91) (ls' := [some (.inr (.inr (5, 0))), some (.inl x1), some (.inl x2)]) (st' := [.inl x1, .inr (.inr (5, 0))]) (M' := M) rfl trivial ?_
    refine Wp.call h rfl rfl (by decide) ?_
    rintro _ M1_1 ⟨r_1, rfl, h⟩
    show Wp 4 519 94 [some (.inr (.inr (5, 0))), some (.inl x1), some (.inl x2)] [.inl r_1] M1_1 (rI Q)
    exact Wp.ret rfl ⟨_, rfl, h⟩
  replace h := h.2
  replace h := h ⟨c_1, c_2, c_3, c_4, c_5, c_6⟩
  refine Wp.path (k := 1) [95] (C := [tswT 1 94 0 5 #[39, 48, 57, 66, 75, 88] x2 = 95]) (pc' := 95) (ls' := [some (.inr (.inr (5, 0))), some (.inl x1), some (.inl x2)]) (st' := []) (M' := M) rfl ((tsw_d (by omega)).trans rfl) ?_
  refine Wp.path (k := 2) [] (C := []) (pc' := 97) (ls' := [some (.inr (.inr (5, 0))), some (.inl x1), some (.inl x2)]) (st' := [.inl x1, .inr (.inr (5, 0))]) (M' := M) rfl trivial ?_
  refine Wp.call h rfl rfl (by decide) ?_
  rintro _ M1_2 ⟨r_2, rfl, h⟩
  show Wp 4 519 100 [some (.inr (.inr (5, 0))), some (.inl x1), some (.inl x2)] [.inl r_2] M1_2 (rI Q)
  exact Wp.ret rfl ⟨_, rfl, h⟩
/-- X5_originOf -/
def E_523 (x1 : Int) (x2 : Int) (x3 : Int) (M : Mm) (Q : Int → Mm → Prop) : Prop := Ev 3 523 [.inr (.inr (5, 0)), .inl x1, .inl x2, .inl x3] M (rI Q)
theorem m_523 {x1 : Int} {x2 : Int} {x3 : Int} {M : Mm} {Q Q1 : Int → Mm → Prop} (h : E_523 x1 x2 x3 M Q) (k : (∀ r M1, Q r M1 → Q1 r M1)) : E_523 x1 x2 x3 M Q1 := Ev.mono h (fun v M1 ⟨r, h1, h2⟩ => ⟨r, h1, k _ _ h2⟩)
theorem s_523_0 {x1 : Int} {x2 : Int} {x3 : Int} {M : Mm} {Q : Int → Mm → Prop} (h : (((-2147483648 ≤ 2 * x1 ∧ 2 * x1 ≤ 2147483647) ∧ (-2147483648 ≤ (2 * x1) + 1 ∧ (2 * x1) + 1 ≤ 2147483647)) ∧ (∀ x5 : Int, x5 = (2 * x1) + 1 → (∀ x6 : Int, x6 = atN 340 (M.1 305 (phV (M.1 5 0 11) x1)) x2 → ((upV x6 ≠ 0 → ((-2147483648 ≤ -x5 ∧ -x5 ≤ 2147483647))) ∧ (∀ b : Int, b = (if upV x6 = 0 then x5 else (-x5)) → (((-2147483648 ≤ (atN 340 (M.1 306 (phV (M.1 5 0 11) x1)) x2) + b ∧ (atN 340 (M.1 306 (phV (M.1 5 0 11) x1)) x2) + b ≤ 2147483647)) ∧ (∀ x7 : Int, x7 = (atN 340 (M.1 306 (phV (M.1 5 0 11) x1)) x2) + b → (((-2147483648 ≤ 2 * x7 ∧ 2 * x7 ≤ 2147483647)) ∧ (((-2147483648 ≤ (atN 340 (M.1 307 (phV (M.1 5 0 11) x1)) x2) - x5 ∧ (atN 340 (M.1 307 (phV (M.1 5 0 11) x1)) x2) - x5 ≤ 2147483647) ∧ (-2147483648 ≤ 2 * ((atN 340 (M.1 307 (phV (M.1 5 0 11) x1)) x2) - x5) ∧ 2 * ((atN 340 (M.1 307 (phV (M.1 5 0 11) x1)) x2) - x5) ≤ 2147483647)) ∧ (((-2147483648 ≤ (atN 340 (M.1 308 (phV (M.1 5 0 11) x1)) x2) + x5 ∧ (atN 340 (M.1 308 (phV (M.1 5 0 11) x1)) x2) + x5 ≤ 2147483647) ∧ (-2147483648 ≤ 2 * ((atN 340 (M.1 308 (phV (M.1 5 0 11) x1)) x2) + x5) ∧ 2 * ((atN 340 (M.1 308 (phV (M.1 5 0 11) x1)) x2) + x5) ≤ 2147483647)) ∧ (E_9 x6 (2 * x7) (2 * ((atN 340 (M.1 307 (phV (M.1 5 0 11) x1)) x2) - x5)) (2 * ((atN 340 (M.1 308 (phV (M.1 5 0 11) x1)) x2) + x5)) x3 M (fun (r : Int) (M1 : Mm) => (Q r M1)))))))))))))) : E_523 x1 x2 x3 M Q := by
  show Wp 3 523 0 [some (.inr (.inr (5, 0))), some (.inl x1), some (.inl x2), some (.inl x3), none, none, none, none] [] M (rI Q)
  refine Wp.path (k := 2) [] (C := []) (pc' := 2) (ls' := [some (.inr (.inr (5, 0))), some (.inl x1), some (.inl x2), some (.inl x3), none, none, none, none]) (st' := [.inl x1, .inr (.inr (5, 0))]) (M' := M) rfl trivial ?_
  refine Wp.call (e503) rfl rfl (by decide) ?_
  rintro v_ M_ ⟨eM_, ev_⟩
  rw [eM_, ev_]
  clear eM_ ev_ v_ M_
  show Wp 3 523 5 [some (.inr (.inr (5, 0))), some (.inl x1), some (.inl x2), some (.inl x3), none, none, none, none] [.inr (.inr (3, (phV (M.1 5 0 11) x1)))] M (rI Q)
  refine Wp.path (k := 8) [] (C := [inR (2 * x1), inR ((2 * x1) + 1)]) (pc' := 17) (ls' := [some (.inr (.inr (5, 0))), some (.inl x1), some (.inl x2), some (.inl x3), some (.inr (.inr (2, (phV (M.1 5 0 11) x1)))), some (.inl ((2 * x1) + 1)), none, none]) (st' := []) (M' := M) rfl ⟨h.1.1, h.1.2⟩ ?_
  replace h := h.2
  refine Bd (P := fun x5 : Int => Wp 3 523 17 [some (.inr (.inr (5, 0))), some (.inl x1), some (.inl x2), some (.inl x3), some (.inr (.inr (2, (phV (M.1 5 0 11) x1)))), some (.inl x5), none, none] [] M (rI Q)) ?_
  intro x5 e_x5
  replace h := h x5 e_x5
  refine Wp.path (k := 2) [] (C := []) (pc' := 20) (ls' := [some (.inr (.inr (5, 0))), some (.inl x1), some (.inl x2), some (.inl x3), some (.inr (.inr (2, (phV (M.1 5 0 11) x1)))), some (.inl x5), none, none]) (st' := [.inl x2, .inr (.inr (2, (phV (M.1 5 0 11) x1)))]) (M' := M) rfl trivial ?_
  refine Wp.call (e212) rfl rfl (by decide) ?_
  rintro v_ M_ ⟨eM_, ev_⟩
  rw [eM_, ev_]
  clear eM_ ev_ v_ M_
  show Wp 3 523 23 [some (.inr (.inr (5, 0))), some (.inl x1), some (.inl x2), some (.inl x3), some (.inr (.inr (2, (phV (M.1 5 0 11) x1)))), some (.inl x5), none, none] [.inl (atN 340 (M.1 305 (phV (M.1 5 0 11) x1)) x2)] M (rI Q)
  refine Wp.path (k := 1) [] (C := []) (pc' := 25) (ls' := [some (.inr (.inr (5, 0))), some (.inl x1), some (.inl x2), some (.inl x3), some (.inr (.inr (2, (phV (M.1 5 0 11) x1)))), some (.inl x5), some (.inl (atN 340 (M.1 305 (phV (M.1 5 0 11) x1)) x2)), none]) (st' := []) (M' := M) rfl trivial ?_
  refine Bd (P := fun x6 : Int => Wp 3 523 25 [some (.inr (.inr (5, 0))), some (.inl x1), some (.inl x2), some (.inl x3), some (.inr (.inr (2, (phV (M.1 5 0 11) x1)))), some (.inl x5), some (.inl x6), none] [] M (rI Q)) ?_
  intro x6 e_x6
  replace h := h x6 e_x6
  refine Wp.path (k := 2) [] (C := []) (pc' := 28) (ls' := [some (.inr (.inr (5, 0))), some (.inl x1), some (.inl x2), some (.inl x3), some (.inr (.inr (2, (phV (M.1 5 0 11) x1)))), some (.inl x5), some (.inl x6), none]) (st' := [.inl x2, .inr (.inr (2, (phV (M.1 5 0 11) x1)))]) (M' := M) rfl trivial ?_
  refine Wp.call (e213) rfl rfl (by decide) ?_
  rintro v_ M_ ⟨eM_, ev_⟩
  rw [eM_, ev_]
  clear eM_ ev_ v_ M_
  show Wp 3 523 31 [some (.inr (.inr (5, 0))), some (.inl x1), some (.inl x2), some (.inl x3), some (.inr (.inr (2, (phV (M.1 5 0 11) x1)))), some (.inl x5), some (.inl x6), none] [.inl (atN 340 (M.1 306 (phV (M.1 5 0 11) x1)) x2)] M (rI Q)
  refine Wp.path (k := 1) [] (C := []) (pc' := 33) (ls' := [some (.inr (.inr (5, 0))), some (.inl x1), some (.inl x2), some (.inl x3), some (.inr (.inr (2, (phV (M.1 5 0 11) x1)))), some (.inl x5), some (.inl x6), none]) (st' := [.inl x6, .inl (atN 340 (M.1 306 (phV (M.1 5 0 11) x1)) x2)]) (M' := M) rfl trivial ?_
  refine Wp.call (e941) rfl rfl (by decide) ?_
  rintro v_ M_ ⟨eM_, ev_⟩
  rw [eM_, ev_]
  clear eM_ ev_ v_ M_
  show Wp 3 523 36 [some (.inr (.inr (5, 0))), some (.inl x1), some (.inl x2), some (.inl x3), some (.inr (.inr (2, (phV (M.1 5 0 11) x1)))), some (.inl x5), some (.inl x6), none] [.inl (upV x6), .inl (atN 340 (M.1 306 (phV (M.1 5 0 11) x1)) x2)] M (rI Q)
  have g1_0 := h.1
  replace h := h.2
  have k_1 : ∀ b : Int, b = (if upV x6 = 0 then x5 else (-x5)) → Wp 3 523 47 [some (.inr (.inr (5, 0))), some (.inl x1), some (.inl x2), some (.inl x3), some (.inr (.inr (2, (phV (M.1 5 0 11) x1)))), some (.inl x5), some (.inl x6), none] [.inl b, .inl (atN 340 (M.1 306 (phV (M.1 5 0 11) x1)) x2)] M (rI Q) := by
    intro b e_b
    replace h := h b e_b
    refine Wp.path (k := 2) [] (C := [inR ((atN 340 (M.1 306 (phV (M.1 5 0 11) x1)) x2) + b)]) (pc' := 50) (ls' := [some (.inr (.inr (5, 0))), some (.inl x1), some (.inl x2), some (.inl x3), some (.inr (.inr (2, (phV (M.1 5 0 11) x1)))), some (.inl x5), some (.inl x6), some (.inl ((atN 340 (M.1 306 (phV (M.1 5 0 11) x1)) x2) + b))]) (st' := []) (M' := M) rfl h.1 ?_
    replace h := h.2
    refine Bd (P := fun x7 : Int => Wp 3 523 50 [some (.inr (.inr (5, 0))), some (.inl x1), some (.inl x2), some (.inl x3), some (.inr (.inr (2, (phV (M.1 5 0 11) x1)))), some (.inl x5), some (.inl x6), some (.inl x7)] [] M (rI Q)) ?_
    intro x7 e_x7
    replace h := h x7 e_x7
    refine Wp.path (k := 9) [] (C := [inR (2 * x7)]) (pc' := 64) (ls' := [some (.inr (.inr (5, 0))), some (.inl x1), some (.inl x2), some (.inl x3), some (.inr (.inr (2, (phV (M.1 5 0 11) x1)))), some (.inl x5), some (.inl x6), some (.inl x7)]) (st' := [.inl x2, .inr (.inr (2, (phV (M.1 5 0 11) x1))), .inl 2, .inl (2 * x7), .inl x6, .inr (.inr (0, 0))]) (M' := M) rfl h.1 ?_
    replace h := h.2
    refine Wp.call (e214) rfl rfl (by decide) ?_
    rintro v_ M_ ⟨eM_, ev_⟩
    rw [eM_, ev_]
    clear eM_ ev_ v_ M_
    show Wp 3 523 67 [some (.inr (.inr (5, 0))), some (.inl x1), some (.inl x2), some (.inl x3), some (.inr (.inr (2, (phV (M.1 5 0 11) x1)))), some (.inl x5), some (.inl x6), some (.inl x7)] [.inl (atN 340 (M.1 307 (phV (M.1 5 0 11) x1)) x2), .inl 2, .inl (2 * x7), .inl x6, .inr (.inr (0, 0))] M (rI Q)
    refine Wp.path (k := 6) [] (C := [inR ((atN 340 (M.1 307 (phV (M.1 5 0 11) x1)) x2) - x5), inR (2 * ((atN 340 (M.1 307 (phV (M.1 5 0 11) x1)) x2) - x5))]) (pc' := 75) (ls' := [some (.inr (.inr (5, 0))), some (.inl x1), some (.inl x2), some (.inl x3), some (.inr (.inr (2, (phV (M.1 5 0 11) x1)))), some (.inl x5), some (.inl x6), some (.inl x7)]) (st' := [.inl x2, .inr (.inr (2, (phV (M.1 5 0 11) x1))), .inl 2, .inl (2 * ((atN 340 (M.1 307 (phV (M.1 5 0 11) x1)) x2) - x5)), .inl (2 * x7), .inl x6, .inr (.inr (0, 0))]) (M' := M) rfl ⟨h.1.1, h.1.2⟩ ?_
    replace h := h.2
    refine Wp.call (e215) rfl rfl (by decide) ?_
    rintro v_ M_ ⟨eM_, ev_⟩
    rw [eM_, ev_]
    clear eM_ ev_ v_ M_
    show Wp 3 523 78 [some (.inr (.inr (5, 0))), some (.inl x1), some (.inl x2), some (.inl x3), some (.inr (.inr (2, (phV (M.1 5 0 11) x1)))), some (.inl x5), some (.inl x6), some (.inl x7)] [.inl (atN 340 (M.1 308 (phV (M.1 5 0 11) x1)) x2), .inl 2, .inl (2 * ((atN 340 (M.1 307 (phV (M.1 5 0 11) x1)) x2) - x5)), .inl (2 * x7), .inl x6, .inr (.inr (0, 0))] M (rI Q)
    refine Wp.path (k := 4) [] (C := [inR ((atN 340 (M.1 308 (phV (M.1 5 0 11) x1)) x2) + x5), inR (2 * ((atN 340 (M.1 308 (phV (M.1 5 0 11) x1)) x2) + x5))]) (pc' := 83) (ls' := [some (.inr (.inr (5, 0))), some (.inl x1), some (.inl x2), some (.inl x3), some (.inr (.inr (2, (phV (M.1 5 0 11) x1)))), some (.inl x5), some (.inl x6), some (.inl x7)]) (st' := [.inl x3, .inl (2 * ((atN 340 (M.1 308 (phV (M.1 5 0 11) x1)) x2) + x5)), .inl (2 * ((atN 340 (M.1 307 (phV (M.1 5 0 11) x1)) x2) - x5)), .inl (2 * x7), .inl x6, .inr (.inr (0, 0))]) (M' := M) rfl ⟨h.1.1, h.1.2⟩ ?_
    replace h := h.2
    refine Wp.call h rfl rfl (by decide) ?_
    rintro _ M1 ⟨r, rfl, h⟩
    show Wp 3 523 86 [some (.inr (.inr (5, 0))), some (.inl x1), some (.inl x2), some (.inl x3), some (.inr (.inr (2, (phV (M.1 5 0 11) x1)))), some (.inl x5), some (.inl x6), some (.inl x7)] [.inl r] M1 (rI Q)
    exact Wp.ret rfl ⟨_, rfl, h⟩
  clear h
  rcases Decidable.em (upV x6 = 0) with c_2 | c_2
  · refine Wp.path (k := 1) [1] (C := [upV x6 = 0]) (pc' := 45) (ls' := [some (.inr (.inr (5, 0))), some (.inl x1), some (.inl x2), some (.inl x3), some (.inr (.inr (2, (phV (M.1 5 0 11) x1)))), some (.inl x5), some (.inl x6), none]) (st' := [.inl (atN 340 (M.1 306 (phV (M.1 5 0 11) x1)) x2)]) (M' := M) rfl c_2 ?_
    refine Wp.path (k := 1) [] (C := []) (pc' := 47) (ls' := [some (.inr (.inr (5, 0))), some (.inl x1), some (.inl x2), some (.inl x3), some (.inr (.inr (2, (phV (M.1 5 0 11) x1)))), some (.inl x5), some (.inl x6), none]) (st' := [.inl x5, .inl (atN 340 (M.1 306 (phV (M.1 5 0 11) x1)) x2)]) (M' := M) rfl trivial ?_
    exact k_1 _ (by rw [if_pos c_2])
  · refine Wp.path (k := 1) [0] (C := [upV x6 ≠ 0]) (pc' := 39) (ls' := [some (.inr (.inr (5, 0))), some (.inl x1), some (.inl x2), some (.inl x3), some (.inr (.inr (2, (phV (M.1 5 0 11) x1)))), some (.inl x5), some (.inl x6), none]) (st' := [.inl (atN 340 (M.1 306 (phV (M.1 5 0 11) x1)) x2)]) (M' := M) rfl c_2 ?_
    refine Wp.path (k := 3) [] (C := [inR (-x5)]) (pc' := 47) (ls' := [some (.inr (.inr (5, 0))), some (.inl x1), some (.inl x2), some (.inl x3), some (.inr (.inr (2, (phV (M.1 5 0 11) x1)))), some (.inl x5), some (.inl x6), none]) (st' := [.inl (-x5), .inl (atN 340 (M.1 306 (phV (M.1 5 0 11) x1)) x2)]) (M' := M) rfl (g1_0 c_2) ?_
    exact k_1 _ (by rw [if_neg c_2])
/-- X5_mergedSides -/
def E_525 (x1 : Int) (M : Mm) (Q : Int → Mm → Prop) : Prop := Ev 4 525 [.inr (.inr (5, 0)), .inl x1] M (rI Q)
theorem m_525 {x1 : Int} {M : Mm} {Q Q1 : Int → Mm → Prop} (h : E_525 x1 M Q) (k : (∀ r M1, Q r M1 → Q1 r M1)) : E_525 x1 M Q1 := Ev.mono h (fun v M1 ⟨r, h1, h2⟩ => ⟨r, h1, k _ _ h2⟩)
def L_525_17 (x1 : Int) (x2 : Int) (x3 : Int) (x4 : Int) (M : Mm) (Q : Int → Mm → Prop) : Prop := Wp 4 525 17 [some (.inr (.inr (5, 0))), some (.inl x1), some (.inl x2), some (.inl x3), some (.inl x4)] [] M (rI Q)
theorem s_525_0 {x1 : Int} {M : Mm} {Q : Int → Mm → Prop} (h : (∀ x2 : Int, x2 = M.1 2 (phV (M.1 5 0 11) x1) 13 → (L_525_17 x1 x2 0 0 M Q))) : E_525 x1 M Q := by
  show Wp 4 525 0 [some (.inr (.inr (5, 0))), some (.inl x1), none, none, none] [] M (rI Q)
  refine Wp.path (k := 2) [] (C := []) (pc' := 2) (ls' := [some (.inr (.inr (5, 0))), some (.inl x1), none, none, none]) (st' := [.inl x1, .inr (.inr (5, 0))]) (M' := M) rfl trivial ?_
  refine Wp.call (e503) rfl rfl (by decide) ?_
  rintro v_ M_ ⟨eM_, ev_⟩
  rw [eM_, ev_]
  clear eM_ ev_ v_ M_
  show Wp 4 525 5 [some (.inr (.inr (5, 0))), some (.inl x1), none, none, none] [.inr (.inr (3, (phV (M.1 5 0 11) x1)))] M (rI Q)
  refine Wp.path (k := 3) [] (C := []) (pc' := 12) (ls' := [some (.inr (.inr (5, 0))), some (.inl x1), some (.inl (M.1 2 (phV (M.1 5 0 11) x1) 13)), none, none]) (st' := []) (M' := M) rfl trivial ?_
  refine Bd (P := fun x2 : Int => Wp 4 525 12 [some (.inr (.inr (5, 0))), some (.inl x1), some (.inl x2), none, none] [] M (rI Q)) ?_
  intro x2 e_x2
  replace h := h x2 e_x2
  refine Wp.path (k := 4) [] (C := []) (pc' := 17) (ls' := [some (.inr (.inr (5, 0))), some (.inl x1), some (.inl x2), some (.inl 0), some (.inl 0)]) (st' := []) (M' := M) rfl trivial ?_
  exact h
theorem s_525_17 {x1 : Int} {x2 : Int} {x3 : Int} {x4 : Int} {M : Mm} {Q : Int → Mm → Prop} (h : ((x2 ≤ x4 → (Q x3 M)) ∧ (x4 < x2 → (E_523 x1 x4 0 M (fun (r : Int) (M1 : Mm) => ((1 < r → ((-2147483648 ≤ x3 + 1 ∧ x3 + 1 ≤ 2147483647))) ∧ (∀ x3_1 : Int, x3_1 = (if r ≤ 1 then x3 else (x3 + 1)) → (((-2147483648 ≤ x4 + 1 ∧ x4 + 1 ≤ 2147483647)) ∧ (L_525_17 x1 x2 x3_1 (x4 + 1) M1 Q))))))))) : L_525_17 x1 x2 x3 x4 M Q := by
  show Wp 4 525 17 [some (.inr (.inr (5, 0))), some (.inl x1), some (.inl x2), some (.inl x3), some (.inl x4)] [] M (rI Q)
  refine Wp.path (k := 2) [] (C := []) (pc' := 20) (ls' := [some (.inr (.inr (5, 0))), some (.inl x1), some (.inl x2), some (.inl x3), some (.inl x4)]) (st' := [.inl x2, .inl x4]) (M' := M) rfl trivial ?_
  rcases Int.lt_or_le (x4) (x2) with c_1 | c_1
  · replace h := h.2 c_1
    refine Wp.path (k := 1) [0] (C := [x4 < x2]) (pc' := 23) (ls' := [some (.inr (.inr (5, 0))), some (.inl x1), some (.inl x2), some (.inl x3), some (.inl x4)]) (st' := []) (M' := M) rfl c_1 ?_
    refine Wp.path (k := 4) [] (C := []) (pc' := 28) (ls' := [some (.inr (.inr (5, 0))), some (.inl x1), some (.inl x2), some (.inl x3), some (.inl x4)]) (st' := [.inl 0, .inl x4, .inl x1, .inr (.inr (5, 0))]) (M' := M) rfl trivial ?_
    refine Wp.call h rfl rfl (by decide) ?_
    rintro _ M1 ⟨r, rfl, h⟩
    show Wp 4 525 31 [some (.inr (.inr (5, 0))), some (.inl x1), some (.inl x2), some (.inl x3), some (.inl x4)] [.inl r] M1 (rI Q)
    refine Wp.path (k := 1) [] (C := []) (pc' := 32) (ls' := [some (.inr (.inr (5, 0))), some (.inl x1), some (.inl x2), some (.inl x3), some (.inl x4)]) (st' := [.inl 1, .inl r]) (M' := M1) rfl trivial ?_
    have g2_0 := h.1
    replace h := h.2
    have k_2 : ∀ x3_1 : Int, x3_1 = (if r ≤ 1 then x3 else (x3 + 1)) → Wp 4 525 38 [some (.inr (.inr (5, 0))), some (.inl x1), some (.inl x2), some (.inl x3_1), some (.inl x4)] [] M1 (rI Q) := by
      intro x3_1 e_x3_1
      replace h := h x3_1 e_x3_1
      refine Wp.path (k := 2) [] (C := [inR (x4 + 1)]) (pc' := 17) (ls' := [some (.inr (.inr (5, 0))), some (.inl x1), some (.inl x2), some (.inl x3_1), some (.inl (x4 + 1))]) (st' := []) (M' := M1) rfl h.1 ?_
      replace h := h.2
      exact h
    clear h
    rcases Int.lt_or_le (1) (r) with c_3 | c_3
    · refine Wp.path (k := 1) [0] (C := [1 < r]) (pc' := 35) (ls' := [some (.inr (.inr (5, 0))), some (.inl x1), some (.inl x2), some (.inl x3), some (.inl x4)]) (st' := []) (M' := M1) rfl c_3 ?_
      refine Wp.path (k := 1) [] (C := [inR (x3 + 1)]) (pc' := 38) (ls' := [some (.inr (.inr (5, 0))), some (.inl x1), some (.inl x2), some (.inl (x3 + 1)), some (.inl x4)]) (st' := []) (M' := M1) rfl (g2_0 c_3) ?_
      exact k_2 _ (by rw [if_neg (Int.not_le.mpr c_3)])
    · refine Wp.path (k := 1) [1] (C := [r ≤ 1]) (pc' := 38) (ls' := [some (.inr (.inr (5, 0))), some (.inl x1), some (.inl x2), some (.inl x3), some (.inl x4)]) (st' := []) (M' := M1) rfl c_3 ?_
      exact k_2 _ (by rw [if_pos c_3])
  · replace h := h.1 c_1
    refine Wp.path (k := 1) [1] (C := [x2 ≤ x4]) (pc' := 44) (ls' := [some (.inr (.inr (5, 0))), some (.inl x1), some (.inl x2), some (.inl x3), some (.inl x4)]) (st' := []) (M' := M) rfl c_1 ?_
    refine Wp.path (k := 1) [] (C := []) (pc' := 45) (ls' := [some (.inr (.inr (5, 0))), some (.inl x1), some (.inl x2), some (.inl x3), some (.inl x4)]) (st' := [.inl x3]) (M' := M) rfl trivial ?_
    exact Wp.ret rfl ⟨_, rfl, h⟩
/-- X5_phaseProperty -/
def E_524 (x1 : Int) (x2 : Int) (M : Mm) (Q : Int → Mm → Prop) : Prop := Ev 5 524 [.inr (.inr (5, 0)), .inl x1, .inl x2] M (rI Q)
theorem m_524 {x1 : Int} {x2 : Int} {M : Mm} {Q Q1 : Int → Mm → Prop} (h : E_524 x1 x2 M Q) (k : (∀ r M1, Q r M1 → Q1 r M1)) : E_524 x1 x2 M Q1 := Ev.mono h (fun v M1 ⟨r, h1, h2⟩ => ⟨r, h1, k _ _ h2⟩)
theorem s_524_0 {x1 : Int} {x2 : Int} {M : Mm} {Q : Int → Mm → Prop} (h : ((x2 = 0 → (((-2147483648 ≤ 2 * x1 ∧ 2 * x1 ≤ 2147483647) ∧ (-2147483648 ≤ (2 * x1) + 2 ∧ (2 * x1) + 2 ≤ 2147483647)) ∧ (Q (atN 26 (M.1 607 0) ((2 * x1) + 2)) M))) ∧ (x2 = 1 → (Q (M.1 3 (phV (M.1 5 0 11) x1) 10) M)) ∧ (x2 = 2 → (Q (M.1 2 (phV (M.1 5 0 11) x1) 11) M)) ∧ (x2 = 3 → (Q (M.1 2 (phV (M.1 5 0 11) x1) 12) M)) ∧ (x2 = 4 → (Q (M.1 2 (phV (M.1 5 0 11) x1) 13) M)) ∧ (x2 = 5 → (Q (M.1 2 (phV (M.1 5 0 11) x1) 14) M)) ∧ (x2 = 6 → (Q (M.1 2 (phV (M.1 5 0 11) x1) 15) M)) ∧ (x2 ≠ 0 ∧ x2 ≠ 1 ∧ x2 ≠ 2 ∧ x2 ≠ 3 ∧ x2 ≠ 4 ∧ x2 ≠ 5 ∧ x2 ≠ 6 → (E_525 x1 M (fun (r : Int) (M1 : Mm) => (Q r M1)))))) : E_524 x1 x2 M Q := by
  show Wp 5 524 0 [some (.inr (.inr (5, 0))), some (.inl x1), some (.inl x2), none] [] M (rI Q)
  refine Wp.path (k := 2) [] (C := []) (pc' := 2) (ls' := [some (.inr (.inr (5, 0))), some (.inl x1), some (.inl x2), none]) (st' := [.inl x1, .inr (.inr (5, 0))]) (M' := M) rfl trivial ?_
  refine Wp.call (e503) rfl rfl (by decide) ?_
  rintro v_ M_ ⟨eM_, ev_⟩
  rw [eM_, ev_]
  clear eM_ ev_ v_ M_
  show Wp 5 524 5 [some (.inr (.inr (5, 0))), some (.inl x1), some (.inl x2), none] [.inr (.inr (3, (phV (M.1 5 0 11) x1)))] M (rI Q)
  refine Wp.path (k := 3) [] (C := []) (pc' := 10) (ls' := [some (.inr (.inr (5, 0))), some (.inl x1), some (.inl x2), some (.inr (.inr (2, (phV (M.1 5 0 11) x1))))]) (st' := [.inl x2]) (M' := M) rfl trivial ?_
  rcases Decidable.em (x2 = 0) with c_1 | c_1
  · replace h := h.1 c_1
    refine Wp.path (k := 1) [52] (C := [tswT 10 89 0 6 #[42, 55, 64, 69, 74, 79, 84] x2 = 52]) (pc' := 52) (ls' := [some (.inr (.inr (5, 0))), some (.inl x1), some (.inl x2), some (.inr (.inr (2, (phV (M.1 5 0 11) x1))))]) (st' := []) (M' := M) rfl (by rw [c_1]; rfl) ?_
    refine Wp.path (k := 7) [] (C := [inR (2 * x1), inR ((2 * x1) + 2)]) (pc' := 61) (ls' := [some (.inr (.inr (5, 0))), some (.inl x1), some (.inl x2), some (.inr (.inr (2, (phV (M.1 5 0 11) x1))))]) (st' := [.inl ((2 * x1) + 2), .inr (.inr (607, 0))]) (M' := M) rfl ⟨h.1.1, h.1.2⟩ ?_
    replace h := h.2
    refine Wp.call (at_607) rfl rfl (by decide) ?_
    rintro v_ M_ ⟨eM_, ev_⟩
    rw [eM_, ev_]
    clear eM_ ev_ v_ M_
    show Wp 5 524 64 [some (.inr (.inr (5, 0))), some (.inl x1), some (.inl x2), some (.inr (.inr (2, (phV (M.1 5 0 11) x1))))] [.inl (atN 26 (M.1 607 0) ((2 * x1) + 2))] M (rI Q)
    exact Wp.ret rfl ⟨_, rfl, h⟩
  replace h := h.2
  rcases Decidable.em (x2 = 1) with c_2 | c_2
  · replace h := h.1 c_2
    refine Wp.path (k := 1) [65] (C := [tswT 10 89 0 6 #[42, 55, 64, 69, 74, 79, 84] x2 = 65]) (pc' := 65) (ls' := [some (.inr (.inr (5, 0))), some (.inl x1), some (.inl x2), some (.inr (.inr (2, (phV (M.1 5 0 11) x1))))]) (st' := []) (M' := M) rfl (by rw [c_2]; rfl) ?_
    refine Wp.path (k := 2) [] (C := []) (pc' := 67) (ls' := [some (.inr (.inr (5, 0))), some (.inl x1), some (.inl x2), some (.inr (.inr (2, (phV (M.1 5 0 11) x1))))]) (st' := [.inl x1, .inr (.inr (5, 0))]) (M' := M) rfl trivial ?_
    refine Wp.call (e503) rfl rfl (by decide) ?_
    rintro v_ M_ ⟨eM_, ev_⟩
    rw [eM_, ev_]
    clear eM_ ev_ v_ M_
    show Wp 5 524 70 [some (.inr (.inr (5, 0))), some (.inl x1), some (.inl x2), some (.inr (.inr (2, (phV (M.1 5 0 11) x1))))] [.inr (.inr (3, (phV (M.1 5 0 11) x1)))] M (rI Q)
    refine Wp.path (k := 1) [] (C := []) (pc' := 73) (ls' := [some (.inr (.inr (5, 0))), some (.inl x1), some (.inl x2), some (.inr (.inr (2, (phV (M.1 5 0 11) x1))))]) (st' := [.inl (M.1 3 (phV (M.1 5 0 11) x1) 10)]) (M' := M) rfl trivial ?_
    exact Wp.ret rfl ⟨_, rfl, h⟩
  replace h := h.2
  rcases Decidable.em (x2 = 2) with c_3 | c_3
  · replace h := h.1 c_3
    refine Wp.path (k := 1) [74] (C := [tswT 10 89 0 6 #[42, 55, 64, 69, 74, 79, 84] x2 = 74]) (pc' := 74) (ls' := [some (.inr (.inr (5, 0))), some (.inl x1), some (.inl x2), some (.inr (.inr (2, (phV (M.1 5 0 11) x1))))]) (st' := []) (M' := M) rfl (by rw [c_3]; rfl) ?_
    refine Wp.path (k := 2) [] (C := []) (pc' := 78) (ls' := [some (.inr (.inr (5, 0))), some (.inl x1), some (.inl x2), some (.inr (.inr (2, (phV (M.1 5 0 11) x1))))]) (st' := [.inl (M.1 2 (phV (M.1 5 0 11) x1) 11)]) (M' := M) rfl trivial ?_
    exact Wp.ret rfl ⟨_, rfl, h⟩
  replace h := h.2
  rcases Decidable.em (x2 = 3) with c_4 | c_4
  · replace h := h.1 c_4
    refine Wp.path (k := 1) [79] (C := [tswT 10 89 0 6 #[42, 55, 64, 69, 74, 79, 84] x2 = 79]) (pc' := 79) (ls' := [some (.inr (.inr (5, 0))), some (.inl x1), some (.inl x2), some (.inr (.inr (2, (phV (M.1 5 0 11) x1))))]) (st' := []) (M' := M) rfl (by rw [c_4]; rfl) ?_
    refine Wp.path (k := 2) [] (C := []) (pc' := 83) (ls' := [some (.inr (.inr (5, 0))), some (.inl x1), some (.inl x2), some (.inr (.inr (2, (phV (M.1 5 0 11) x1))))]) (st' := [.inl (M.1 2 (phV (M.1 5 0 11) x1) 12)]) (M' := M) rfl trivial ?_
    exact Wp.ret rfl ⟨_, rfl, h⟩
  replace h := h.2
  rcases Decidable.em (x2 = 4) with c_5 | c_5
  · replace h := h.1 c_5
    refine Wp.path (k := 1) [84] (C := [tswT 10 89 0 6 #[42, 55, 64, 69, 74, 79, 84] x2 = 84]) (pc' := 84) (ls' := [some (.inr (.inr (5, 0))), some (.inl x1), some (.inl x2), some (.inr (.inr (2, (phV (M.1 5 0 11) x1))))]) (st' := []) (M' := M) rfl (by rw [c_5]; rfl) ?_
    refine Wp.path (k := 2) [] (C := []) (pc' := 88) (ls' := [some (.inr (.inr (5, 0))), some (.inl x1), some (.inl x2), some (.inr (.inr (2, (phV (M.1 5 0 11) x1))))]) (st' := [.inl (M.1 2 (phV (M.1 5 0 11) x1) 13)]) (M' := M) rfl trivial ?_
    exact Wp.ret rfl ⟨_, rfl, h⟩
  replace h := h.2
  rcases Decidable.em (x2 = 5) with c_6 | c_6
  · replace h := h.1 c_6
    refine Wp.path (k := 1) [89] (C := [tswT 10 89 0 6 #[42, 55, 64, 69, 74, 79, 84] x2 = 89]) (pc' := 89) (ls' := [some (.inr (.inr (5, 0))), some (.inl x1), some (.inl x2), some (.inr (.inr (2, (phV (M.1 5 0 11) x1))))]) (st' := []) (M' := M) rfl (by rw [c_6]; rfl) ?_
    refine Wp.path (k := 2) [] (C := []) (pc' := 93) (ls' := [some (.inr (.inr (5, 0))), some (.inl x1), some (.inl x2), some (.inr (.inr (2, (phV (M.1 5 0 11) x1))))]) (st' := [.inl (M.1 2 (phV (M.1 5 0 11) x1) 14)]) (M' := M) rfl trivial ?_
    exact Wp.ret rfl ⟨_, rfl, h⟩
  replace h := h.2
  rcases Decidable.em (x2 = 6) with c_7 | c_7
  · replace h := h.1 c_7
    refine Wp.path (k := 1) [94] (C := [tswT 10 89 0 6 #[42, 55, 64, 69, 74, 79, 84] x2 = 94]) (pc' := 94) (ls' := [some (.inr (.inr (5, 0))), some (.inl x1), some (.inl x2), some (.inr (.inr (2, (phV (M.1 5 0 11) x1))))]) (st' := []) (M' := M) rfl (by rw [c_7]; rfl) ?_
    refine Wp.path (k := 2) [] (C := []) (pc' := 98) (ls' := [some (.inr (.inr (5, 0))), some (.inl x1), some (.inl x2), some (.inr (.inr (2, (phV (M.1 5 0 11) x1))))]) (st' := [.inl (M.1 2 (phV (M.1 5 0 11) x1) 15)]) (M' := M) rfl trivial ?_
    exact Wp.ret rfl ⟨_, rfl, h⟩
  replace h := h.2
  replace h := h ⟨c_1, c_2, c_3, c_4, c_5, c_6, c_7⟩
  refine Wp.path (k := 1) [99] (C := [tswT 10 89 0 6 #[42, 55, 64, 69, 74, 79, 84] x2 = 99]) (pc' := 99) (ls' := [some (.inr (.inr (5, 0))), some (.inl x1), some (.inl x2), some (.inr (.inr (2, (phV (M.1 5 0 11) x1))))]) (st' := []) (M' := M) rfl ((tsw_d (by omega)).trans rfl) ?_
  refine Wp.path (k := 2) [] (C := []) (pc' := 101) (ls' := [some (.inr (.inr (5, 0))), some (.inl x1), some (.inl x2), some (.inr (.inr (2, (phV (M.1 5 0 11) x1))))]) (st' := [.inl x1, .inr (.inr (5, 0))]) (M' := M) rfl trivial ?_
  refine Wp.call h rfl rfl (by decide) ?_
  rintro _ M1 ⟨r, rfl, h⟩
  show Wp 5 524 104 [some (.inr (.inr (5, 0))), some (.inl x1), some (.inl x2), some (.inr (.inr (2, (phV (M.1 5 0 11) x1))))] [.inl r] M1 (rI Q)
  exact Wp.ret rfl ⟨_, rfl, h⟩
/-- X5_isEvent -/
def E_526 (x1 : Int) (M : Mm) (Q : Int → Mm → Prop) : Prop := Ev 1 526 [.inr (.inr (5, 0)), .inl x1] M (rI Q)
theorem m_526 {x1 : Int} {M : Mm} {Q Q1 : Int → Mm → Prop} (h : E_526 x1 M Q) (k : (∀ r M1, Q r M1 → Q1 r M1)) : E_526 x1 M Q1 := Ev.mono h (fun v M1 ⟨r, h1, h2⟩ => ⟨r, h1, k _ _ h2⟩)
theorem s_526_0 {x1 : Int} {M : Mm} {Q : Int → Mm → Prop} (h : ((-2147483648 ≤ x1 - 1 ∧ x1 - 1 ≤ 2147483647)) ∧ (∀ b : Int, b = (if M.1 2 (phV (M.1 5 0 11) (x1 - 1)) 13 ≠ M.1 2 (phV (M.1 5 0 11) x1) 13 then 1 else (if M.1 3 (phV (M.1 5 0 11) (x1 - 1)) 10 ≠ M.1 3 (phV (M.1 5 0 11) x1) 10 then 1 else (if M.1 2 (phV (M.1 5 0 11) (x1 - 1)) 12 = M.1 2 (phV (M.1 5 0 11) x1) 12 then 0 else 1))) → ((b = 0 ∨ b = 1) ∧ (Q b M)))) : E_526 x1 M Q := by
  show Wp 1 526 0 [some (.inr (.inr (5, 0))), some (.inl x1), none, none] [] M (rI Q)
  refine Wp.path (k := 4) [] (C := [inR (x1 - 1)]) (pc' := 4) (ls' := [some (.inr (.inr (5, 0))), some (.inl x1), none, none]) (st' := [.inl (x1 - 1), .inr (.inr (5, 0))]) (M' := M) rfl h.1 ?_
  replace h := h.2
  refine Wp.call (e503) rfl rfl (by decide) ?_
  rintro v_ M_ ⟨eM_, ev_⟩
  rw [eM_, ev_]
  clear eM_ ev_ v_ M_
  show Wp 1 526 7 [some (.inr (.inr (5, 0))), some (.inl x1), none, none] [.inr (.inr (3, (phV (M.1 5 0 11) (x1 - 1))))] M (rI Q)
  refine Wp.path (k := 3) [] (C := []) (pc' := 10) (ls' := [some (.inr (.inr (5, 0))), some (.inl x1), some (.inr (.inr (3, (phV (M.1 5 0 11) (x1 - 1))))), none]) (st' := [.inl x1, .inr (.inr (5, 0))]) (M' := M) rfl trivial ?_
  refine Wp.call (e503) rfl rfl (by decide) ?_
  rintro v_ M_ ⟨eM_, ev_⟩
  rw [eM_, ev_]
  clear eM_ ev_ v_ M_
  show Wp 1 526 13 [some (.inr (.inr (5, 0))), some (.inl x1), some (.inr (.inr (3, (phV (M.1 5 0 11) (x1 - 1))))), none] [.inr (.inr (3, (phV (M.1 5 0 11) x1)))] M (rI Q)
  refine Wp.path (k := 7) [] (C := []) (pc' := 28) (ls' := [some (.inr (.inr (5, 0))), some (.inl x1), some (.inr (.inr (3, (phV (M.1 5 0 11) (x1 - 1))))), some (.inr (.inr (3, (phV (M.1 5 0 11) x1))))]) (st' := [.inl (M.1 2 (phV (M.1 5 0 11) x1) 13), .inl (M.1 2 (phV (M.1 5 0 11) (x1 - 1)) 13)]) (M' := M) rfl trivial ?_
  have k_1 : ∀ b : Int, b = (if M.1 2 (phV (M.1 5 0 11) (x1 - 1)) 13 ≠ M.1 2 (phV (M.1 5 0 11) x1) 13 then 1 else (if M.1 3 (phV (M.1 5 0 11) (x1 - 1)) 10 ≠ M.1 3 (phV (M.1 5 0 11) x1) 10 then 1 else (if M.1 2 (phV (M.1 5 0 11) (x1 - 1)) 12 = M.1 2 (phV (M.1 5 0 11) x1) 12 then 0 else 1))) → Wp 1 526 64 [some (.inr (.inr (5, 0))), some (.inl x1), some (.inr (.inr (3, (phV (M.1 5 0 11) (x1 - 1))))), some (.inr (.inr (3, (phV (M.1 5 0 11) x1))))] [.inl b] M (rI Q) := by
    intro b e_b
    replace h := h b e_b
    exact Wp.ret (by rcases h.1 with e_r | e_r <;> rw [e_r] <;> rfl) ⟨_, rfl, h.2⟩
  clear h
  rcases Decidable.em (M.1 2 (phV (M.1 5 0 11) (x1 - 1)) 13 = M.1 2 (phV (M.1 5 0 11) x1) 13) with c_2 | c_2
  · refine Wp.path (k := 1) [0] (C := [M.1 2 (phV (M.1 5 0 11) (x1 - 1)) 13 = M.1 2 (phV (M.1 5 0 11) x1) 13]) (pc' := 31) (ls' := [some (.inr (.inr (5, 0))), some (.inl x1), some (.inr (.inr (3, (phV (M.1 5 0 11) (x1 - 1))))), some (.inr (.inr (3, (phV (M.1 5 0 11) x1))))]) (st' := []) (M' := M) rfl c_2 ?_
    refine Wp.path (k := 4) [] (C := []) (pc' := 39) (ls' := [some (.inr (.inr (5, 0))), some (.inl x1), some (.inr (.inr (3, (phV (M.1 5 0 11) (x1 - 1))))), some (.inr (.inr (3, (phV (M.1 5 0 11) x1))))]) (st' := [.inl (M.1 3 (phV (M.1 5 0 11) x1) 10), .inl (M.1 3 (phV (M.1 5 0 11) (x1 - 1)) 10)]) (M' := M) rfl trivial ?_
    rcases Decidable.em (M.1 3 (phV (M.1 5 0 11) (x1 - 1)) 10 = M.1 3 (phV (M.1 5 0 11) x1) 10) with c_3 | c_3
    · refine Wp.path (k := 1) [0] (C := [M.1 3 (phV (M.1 5 0 11) (x1 - 1)) 10 = M.1 3 (phV (M.1 5 0 11) x1) 10]) (pc' := 42) (ls' := [some (.inr (.inr (5, 0))), some (.inl x1), some (.inr (.inr (3, (phV (M.1 5 0 11) (x1 - 1))))), some (.inr (.inr (3, (phV (M.1 5 0 11) x1))))]) (st' := []) (M' := M) rfl c_3 ?_
      refine Wp.path (k := 6) [] (C := []) (pc' := 56) (ls' := [some (.inr (.inr (5, 0))), some (.inl x1), some (.inr (.inr (3, (phV (M.1 5 0 11) (x1 - 1))))), some (.inr (.inr (3, (phV (M.1 5 0 11) x1))))]) (st' := [.inl (M.1 2 (phV (M.1 5 0 11) x1) 12), .inl (M.1 2 (phV (M.1 5 0 11) (x1 - 1)) 12)]) (M' := M) rfl trivial ?_
      rcases Decidable.em (M.1 2 (phV (M.1 5 0 11) (x1 - 1)) 12 = M.1 2 (phV (M.1 5 0 11) x1) 12) with c_4 | c_4
      · refine Wp.path (k := 1) [1] (C := [M.1 2 (phV (M.1 5 0 11) (x1 - 1)) 12 = M.1 2 (phV (M.1 5 0 11) x1) 12]) (pc' := 63) (ls' := [some (.inr (.inr (5, 0))), some (.inl x1), some (.inr (.inr (3, (phV (M.1 5 0 11) (x1 - 1))))), some (.inr (.inr (3, (phV (M.1 5 0 11) x1))))]) (st' := []) (M' := M) rfl c_4 ?_
        refine Wp.path (k := 1) [] (C := []) (pc' := 64) (ls' := [some (.inr (.inr (5, 0))), some (.inl x1), some (.inr (.inr (3, (phV (M.1 5 0 11) (x1 - 1))))), some (.inr (.inr (3, (phV (M.1 5 0 11) x1))))]) (st' := [.inl 0]) (M' := M) rfl trivial ?_
        exact k_1 _ (by rw [if_neg (not_not_intro c_2), if_neg (not_not_intro c_3), if_pos c_4])
      · refine Wp.path (k := 1) [0] (C := [M.1 2 (phV (M.1 5 0 11) (x1 - 1)) 12 ≠ M.1 2 (phV (M.1 5 0 11) x1) 12]) (pc' := 59) (ls' := [some (.inr (.inr (5, 0))), some (.inl x1), some (.inr (.inr (3, (phV (M.1 5 0 11) (x1 - 1))))), some (.inr (.inr (3, (phV (M.1 5 0 11) x1))))]) (st' := []) (M' := M) rfl c_4 ?_
        refine Wp.path (k := 2) [] (C := []) (pc' := 64) (ls' := [some (.inr (.inr (5, 0))), some (.inl x1), some (.inr (.inr (3, (phV (M.1 5 0 11) (x1 - 1))))), some (.inr (.inr (3, (phV (M.1 5 0 11) x1))))]) (st' := [.inl 1]) (M' := M) rfl trivial ?_
        exact k_1 _ (by rw [if_neg (not_not_intro c_2), if_neg (not_not_intro c_3), if_neg c_4])
    · refine Wp.path (k := 1) [1] (C := [M.1 3 (phV (M.1 5 0 11) (x1 - 1)) 10 ≠ M.1 3 (phV (M.1 5 0 11) x1) 10]) (pc' := 59) (ls' := [some (.inr (.inr (5, 0))), some (.inl x1), some (.inr (.inr (3, (phV (M.1 5 0 11) (x1 - 1))))), some (.inr (.inr (3, (phV (M.1 5 0 11) x1))))]) (st' := []) (M' := M) rfl c_3 ?_
      refine Wp.path (k := 2) [] (C := []) (pc' := 64) (ls' := [some (.inr (.inr (5, 0))), some (.inl x1), some (.inr (.inr (3, (phV (M.1 5 0 11) (x1 - 1))))), some (.inr (.inr (3, (phV (M.1 5 0 11) x1))))]) (st' := [.inl 1]) (M' := M) rfl trivial ?_
      exact k_1 _ (by rw [if_neg (not_not_intro c_2), if_pos c_3])
  · refine Wp.path (k := 1) [1] (C := [M.1 2 (phV (M.1 5 0 11) (x1 - 1)) 13 ≠ M.1 2 (phV (M.1 5 0 11) x1) 13]) (pc' := 59) (ls' := [some (.inr (.inr (5, 0))), some (.inl x1), some (.inr (.inr (3, (phV (M.1 5 0 11) (x1 - 1))))), some (.inr (.inr (3, (phV (M.1 5 0 11) x1))))]) (st' := []) (M' := M) rfl c_2 ?_
    refine Wp.path (k := 2) [] (C := []) (pc' := 64) (ls' := [some (.inr (.inr (5, 0))), some (.inl x1), some (.inr (.inr (3, (phV (M.1 5 0 11) (x1 - 1))))), some (.inr (.inr (3, (phV (M.1 5 0 11) x1))))]) (st' := [.inl 1]) (M' := M) rfl trivial ?_
    exact k_1 _ (by rw [if_pos c_2])
/-- X5_eventCount -/
def E_527 (M : Mm) (Q : Int → Mm → Prop) : Prop := Ev 2 527 [.inr (.inr (5, 0))] M (rI Q)
theorem m_527 {M : Mm} {Q Q1 : Int → Mm → Prop} (h : E_527 M Q) (k : (∀ r M1, Q r M1 → Q1 r M1)) : E_527 M Q1 := Ev.mono h (fun v M1 ⟨r, h1, h2⟩ => ⟨r, h1, k _ _ h2⟩)
def L_527_4 (x1 : Int) (x2 : Int) (M : Mm) (Q : Int → Mm → Prop) : Prop := Wp 2 527 4 [some (.inr (.inr (5, 0))), some (.inl x1), some (.inl x2)] [] M (rI Q)
theorem s_527_0 {M : Mm} {Q : Int → Mm → Prop} (h : (L_527_4 0 1 M Q)) : E_527 M Q := by
  show Wp 2 527 0 [some (.inr (.inr (5, 0))), none, none] [] M (rI Q)
  refine Wp.path (k := 4) [] (C := []) (pc' := 4) (ls' := [some (.inr (.inr (5, 0))), some (.inl 0), some (.inl 1)]) (st' := []) (M' := M) rfl trivial ?_
  exact h
theorem s_527_4 {x1 : Int} {x2 : Int} {M : Mm} {Q : Int → Mm → Prop} (h : ((M.1 5 0 11 < x2 → (Q x1 M)) ∧ (x2 ≤ M.1 5 0 11 → (E_526 x2 M (fun (r : Int) (M1 : Mm) => ((r ≠ 0 → ((-2147483648 ≤ x1 + 1 ∧ x1 + 1 ≤ 2147483647))) ∧ (∀ x1_1 : Int, x1_1 = (if r = 0 then x1 else (x1 + 1)) → (((-2147483648 ≤ x2 + 1 ∧ x2 + 1 ≤ 2147483647)) ∧ (L_527_4 x1_1 (x2 + 1) M1 Q))))))))) : L_527_4 x1 x2 M Q := by
  show Wp 2 527 4 [some (.inr (.inr (5, 0))), some (.inl x1), some (.inl x2)] [] M (rI Q)
  refine Wp.path (k := 3) [] (C := []) (pc' := 9) (ls' := [some (.inr (.inr (5, 0))), some (.inl x1), some (.inl x2)]) (st' := [.inl (M.1 5 0 11), .inl x2]) (M' := M) rfl trivial ?_
  rcases Int.lt_or_le (M.1 5 0 11) (x2) with c_1 | c_1
  · replace h := h.1 c_1
    refine Wp.path (k := 1) [1] (C := [M.1 5 0 11 < x2]) (pc' := 29) (ls' := [some (.inr (.inr (5, 0))), some (.inl x1), some (.inl x2)]) (st' := []) (M' := M) rfl c_1 ?_
    refine Wp.path (k := 1) [] (C := []) (pc' := 30) (ls' := [some (.inr (.inr (5, 0))), some (.inl x1), some (.inl x2)]) (st' := [.inl x1]) (M' := M) rfl trivial ?_
    exact Wp.ret rfl ⟨_, rfl, h⟩
  · replace h := h.2 c_1
    refine Wp.path (k := 1) [0] (C := [x2 ≤ M.1 5 0 11]) (pc' := 12) (ls' := [some (.inr (.inr (5, 0))), some (.inl x1), some (.inl x2)]) (st' := []) (M' := M) rfl c_1 ?_
    refine Wp.path (k := 2) [] (C := []) (pc' := 14) (ls' := [some (.inr (.inr (5, 0))), some (.inl x1), some (.inl x2)]) (st' := [.inl x2, .inr (.inr (5, 0))]) (M' := M) rfl trivial ?_
    refine Wp.call h rfl rfl (by decide) ?_
    rintro _ M1 ⟨r, rfl, h⟩
    show Wp 2 527 17 [some (.inr (.inr (5, 0))), some (.inl x1), some (.inl x2)] [.inl r] M1 (rI Q)
    have g2_0 := h.1
    replace h := h.2
    have k_2 : ∀ x1_1 : Int, x1_1 = (if r = 0 then x1 else (x1 + 1)) → Wp 2 527 23 [some (.inr (.inr (5, 0))), some (.inl x1_1), some (.inl x2)] [] M1 (rI Q) := by
      intro x1_1 e_x1_1
      replace h := h x1_1 e_x1_1
      refine Wp.path (k := 2) [] (C := [inR (x2 + 1)]) (pc' := 4) (ls' := [some (.inr (.inr (5, 0))), some (.inl x1_1), some (.inl (x2 + 1))]) (st' := []) (M' := M1) rfl h.1 ?_
      replace h := h.2
      exact h
    clear h
    rcases Decidable.em (r = 0) with c_3 | c_3
    · refine Wp.path (k := 1) [1] (C := [r = 0]) (pc' := 23) (ls' := [some (.inr (.inr (5, 0))), some (.inl x1), some (.inl x2)]) (st' := []) (M' := M1) rfl c_3 ?_
      exact k_2 _ (by rw [if_pos c_3])
    · refine Wp.path (k := 1) [0] (C := [r ≠ 0]) (pc' := 20) (ls' := [some (.inr (.inr (5, 0))), some (.inl x1), some (.inl x2)]) (st' := []) (M' := M1) rfl c_3 ?_
      refine Wp.path (k := 1) [] (C := [inR (x1 + 1)]) (pc' := 23) (ls' := [some (.inr (.inr (5, 0))), some (.inl (x1 + 1)), some (.inl x2)]) (st' := []) (M' := M1) rfl (g2_0 c_3) ?_
      exact k_2 _ (by rw [if_neg c_3])
/-- X9_recordChange -/
def E_934 (M : Mm) (Q : Mm → Prop) : Prop := Ev 2 934 [.inr (.inr (9, 0))] M (rV Q)
theorem m_934 {M : Mm} {Q Q1 : Mm → Prop} (h : E_934 M Q) (k : (∀ M1, Q M1 → Q1 M1)) : E_934 M Q1 := Ev.mono h (fun v M1 h => ⟨h.1, k _ h.2⟩)
theorem s_934_0 {M : Mm} {Q : Mm → Prop} (h : (E_101 0 M (fun M1 : Mm => (E_501 M1 (fun M1_1 : Mm => (Q M1_1)))))) : E_934 M Q := by
  show Wp 2 934 0 [some (.inr (.inr (9, 0)))] [] M (rV Q)
  refine Wp.path (k := 4) [] (C := []) (pc' := 8) (ls' := [some (.inr (.inr (9, 0)))]) (st' := [.inr (.inr (4, 0)), .inr (.inr (1, 0))]) (M' := M) rfl trivial ?_
  refine Wp.call h rfl rfl (by decide) ?_
  rintro _ M1 ⟨rfl, h⟩
  show Wp 2 934 11 [some (.inr (.inr (9, 0)))] [] M1 (rV Q)
  refine Wp.path (k := 2) [] (C := []) (pc' := 15) (ls' := [some (.inr (.inr (9, 0)))]) (st' := [.inr (.inr (5, 0))]) (M' := M1) rfl trivial ?_
  refine Wp.call h rfl rfl (by decide) ?_
  rintro _ M1_1 ⟨rfl, h⟩
  show Wp 2 934 18 [some (.inr (.inr (9, 0)))] [] M1_1 (rV Q)
  exact Wp.ret rfl ⟨rfl, h⟩
/-- X9_rectangle -/
def E_901 (x1 : Int) (x2 : Int) (x3 : Int) (x4 : Int) (x5 : Int) (M : Mm) (Q : Int → Mm → Prop) : Prop := Ev 3 901 [.inr (.inr (9, 0)), .inl x1, .inl x2, .inl x3, .inl x4, .inl x5] M (rI Q)
theorem m_901 {x1 : Int} {x2 : Int} {x3 : Int} {x4 : Int} {x5 : Int} {M : Mm} {Q Q1 : Int → Mm → Prop} (h : E_901 x1 x2 x3 x4 x5 M Q) (k : (∀ r M1, Q r M1 → Q1 r M1)) : E_901 x1 x2 x3 x4 x5 M Q1 := Ev.mono h (fun v M1 ⟨r, h1, h2⟩ => ⟨r, h1, k _ _ h2⟩)
theorem s_901_0 {x1 : Int} {x2 : Int} {x3 : Int} {x4 : Int} {x5 : Int} {M : Mm} {Q : Int → Mm → Prop} (h : ((x1 < 0 → False) ∧ (0 ≤ x1 → ((x1 ≤ 2 → ((isCellV x2 x3 = 0 → False) ∧ (isCellV x2 x3 ≠ 0 → ((x4 < 1 → False) ∧ (1 ≤ x4 → (((-2147483648 ≤ 12 - x2 ∧ 12 - x2 ≤ 2147483647)) ∧ ((12 - x2 < x4 → False) ∧ (x4 ≤ 12 - x2 → ((x5 < 1 → False) ∧ (1 ≤ x5 → (((-2147483648 ≤ 12 - x3 ∧ 12 - x3 ≤ 2147483647)) ∧ ((x5 ≤ 12 - x3 → (E_405 0 x1 x2 x3 x4 x5 M (fun M1 : Mm => (E_934 M1 (fun M1_1 : Mm => (E_402 0 M1_1 (fun (r : Int) (M1_2 : Mm) => (Q r M1_2)))))))) ∧ (12 - x3 < x5 → False))))))))))))) ∧ (2 < x1 → False))))) : E_901 x1 x2 x3 x4 x5 M Q := by
  show Wp 3 901 0 [some (.inr (.inr (9, 0))), some (.inl x1), some (.inl x2), some (.inl x3), some (.inl x4), some (.inl x5)] [] M (rI Q)
  refine Wp.path (k := 1) [] (C := []) (pc' := 1) (ls' := [some (.inr (.inr (9, 0))), some (.inl x1), some (.inl x2), some (.inl x3), some (.inl x4), some (.inl x5)]) (st' := [.inl x1]) (M' := M) rfl trivial ?_
  rcases Int.lt_or_le (x1) (0) with c_1 | c_1
  · replace h := h.1 c_1
    refine Wp.path (k := 1) [1] (C := [x1 < 0]) (pc' := 9) (ls' := [some (.inr (.inr (9, 0))), some (.inl x1), some (.inl x2), some (.inl x3), some (.inl x4), some (.inl x5)]) (st' := []) (M' := M) rfl c_1 ?_
    exact h.elim
  · replace h := h.2 c_1
    refine Wp.path (k := 1) [0] (C := [0 ≤ x1]) (pc' := 4) (ls' := [some (.inr (.inr (9, 0))), some (.inl x1), some (.inl x2), some (.inl x3), some (.inl x4), some (.inl x5)]) (st' := []) (M' := M) rfl c_1 ?_
    refine Wp.path (k := 2) [] (C := []) (pc' := 6) (ls' := [some (.inr (.inr (9, 0))), some (.inl x1), some (.inl x2), some (.inl x3), some (.inl x4), some (.inl x5)]) (st' := [.inl 2, .inl x1]) (M' := M) rfl trivial ?_
    rcases Int.lt_or_le (2) (x1) with c_2 | c_2
    · replace h := h.2 c_2
      refine Wp.path (k := 1) [0] (C := [2 < x1]) (pc' := 9) (ls' := [some (.inr (.inr (9, 0))), some (.inl x1), some (.inl x2), some (.inl x3), some (.inl x4), some (.inl x5)]) (st' := []) (M' := M) rfl c_2 ?_
      exact h.elim
    · replace h := h.1 c_2
      refine Wp.path (k := 1) [1] (C := [x1 ≤ 2]) (pc' := 19) (ls' := [some (.inr (.inr (9, 0))), some (.inl x1), some (.inl x2), some (.inl x3), some (.inl x4), some (.inl x5)]) (st' := []) (M' := M) rfl c_2 ?_
      refine Wp.path (k := 2) [] (C := []) (pc' := 21) (ls' := [some (.inr (.inr (9, 0))), some (.inl x1), some (.inl x2), some (.inl x3), some (.inl x4), some (.inl x5)]) (st' := [.inl x3, .inl x2]) (M' := M) rfl trivial ?_
      refine Wp.call (e935) rfl rfl (by decide) ?_
      rintro v_ M_ ⟨eM_, ev_⟩
      rw [eM_, ev_]
      clear eM_ ev_ v_ M_
      show Wp 3 901 24 [some (.inr (.inr (9, 0))), some (.inl x1), some (.inl x2), some (.inl x3), some (.inl x4), some (.inl x5)] [.inl (isCellV x2 x3)] M (rI Q)
      rcases Decidable.em (isCellV x2 x3 = 0) with c_3 | c_3
      · replace h := h.1 c_3
        refine Wp.path (k := 1) [1] (C := [isCellV x2 x3 = 0]) (pc' := 57) (ls' := [some (.inr (.inr (9, 0))), some (.inl x1), some (.inl x2), some (.inl x3), some (.inl x4), some (.inl x5)]) (st' := []) (M' := M) rfl c_3 ?_
        exact h.elim
      · replace h := h.2 c_3
        refine Wp.path (k := 1) [0] (C := [isCellV x2 x3 ≠ 0]) (pc' := 27) (ls' := [some (.inr (.inr (9, 0))), some (.inl x1), some (.inl x2), some (.inl x3), some (.inl x4), some (.inl x5)]) (st' := []) (M' := M) rfl c_3 ?_
        refine Wp.path (k := 2) [] (C := []) (pc' := 30) (ls' := [some (.inr (.inr (9, 0))), some (.inl x1), some (.inl x2), some (.inl x3), some (.inl x4), some (.inl x5)]) (st' := [.inl 1, .inl x4]) (M' := M) rfl trivial ?_
        rcases Int.lt_or_le (x4) (1) with c_4 | c_4
        · replace h := h.1 c_4
          refine Wp.path (k := 1) [1] (C := [x4 < 1]) (pc' := 57) (ls' := [some (.inr (.inr (9, 0))), some (.inl x1), some (.inl x2), some (.inl x3), some (.inl x4), some (.inl x5)]) (st' := []) (M' := M) rfl c_4 ?_
          exact h.elim
        · replace h := h.2 c_4
          refine Wp.path (k := 1) [0] (C := [1 ≤ x4]) (pc' := 33) (ls' := [some (.inr (.inr (9, 0))), some (.inl x1), some (.inl x2), some (.inl x3), some (.inl x4), some (.inl x5)]) (st' := []) (M' := M) rfl c_4 ?_
          refine Wp.path (k := 4) [] (C := [inR (12 - x2)]) (pc' := 39) (ls' := [some (.inr (.inr (9, 0))), some (.inl x1), some (.inl x2), some (.inl x3), some (.inl x4), some (.inl x5)]) (st' := [.inl (12 - x2), .inl x4]) (M' := M) rfl h.1 ?_
          replace h := h.2
          rcases Int.lt_or_le (12 - x2) (x4) with c_5 | c_5
          · replace h := h.1 c_5
            refine Wp.path (k := 1) [1] (C := [12 - x2 < x4]) (pc' := 57) (ls' := [some (.inr (.inr (9, 0))), some (.inl x1), some (.inl x2), some (.inl x3), some (.inl x4), some (.inl x5)]) (st' := []) (M' := M) rfl c_5 ?_
            exact h.elim
          · replace h := h.2 c_5
            refine Wp.path (k := 1) [0] (C := [x4 ≤ 12 - x2]) (pc' := 42) (ls' := [some (.inr (.inr (9, 0))), some (.inl x1), some (.inl x2), some (.inl x3), some (.inl x4), some (.inl x5)]) (st' := []) (M' := M) rfl c_5 ?_
            refine Wp.path (k := 2) [] (C := []) (pc' := 45) (ls' := [some (.inr (.inr (9, 0))), some (.inl x1), some (.inl x2), some (.inl x3), some (.inl x4), some (.inl x5)]) (st' := [.inl 1, .inl x5]) (M' := M) rfl trivial ?_
            rcases Int.lt_or_le (x5) (1) with c_6 | c_6
            · replace h := h.1 c_6
              refine Wp.path (k := 1) [1] (C := [x5 < 1]) (pc' := 57) (ls' := [some (.inr (.inr (9, 0))), some (.inl x1), some (.inl x2), some (.inl x3), some (.inl x4), some (.inl x5)]) (st' := []) (M' := M) rfl c_6 ?_
              exact h.elim
            · replace h := h.2 c_6
              refine Wp.path (k := 1) [0] (C := [1 ≤ x5]) (pc' := 48) (ls' := [some (.inr (.inr (9, 0))), some (.inl x1), some (.inl x2), some (.inl x3), some (.inl x4), some (.inl x5)]) (st' := []) (M' := M) rfl c_6 ?_
              refine Wp.path (k := 4) [] (C := [inR (12 - x3)]) (pc' := 54) (ls' := [some (.inr (.inr (9, 0))), some (.inl x1), some (.inl x2), some (.inl x3), some (.inl x4), some (.inl x5)]) (st' := [.inl (12 - x3), .inl x5]) (M' := M) rfl h.1 ?_
              replace h := h.2
              rcases Int.lt_or_le (12 - x3) (x5) with c_7 | c_7
              · replace h := h.2 c_7
                refine Wp.path (k := 1) [0] (C := [12 - x3 < x5]) (pc' := 57) (ls' := [some (.inr (.inr (9, 0))), some (.inl x1), some (.inl x2), some (.inl x3), some (.inl x4), some (.inl x5)]) (st' := []) (M' := M) rfl c_7 ?_
                exact h.elim
              · replace h := h.1 c_7
                refine Wp.path (k := 1) [1] (C := [x5 ≤ 12 - x3]) (pc' := 67) (ls' := [some (.inr (.inr (9, 0))), some (.inl x1), some (.inl x2), some (.inl x3), some (.inl x4), some (.inl x5)]) (st' := []) (M' := M) rfl c_7 ?_
                refine Wp.path (k := 7) [] (C := []) (pc' := 78) (ls' := [some (.inr (.inr (9, 0))), some (.inl x1), some (.inl x2), some (.inl x3), some (.inl x4), some (.inl x5)]) (st' := [.inl x5, .inl x4, .inl x3, .inl x2, .inl x1, .inr (.inr (4, 0))]) (M' := M) rfl trivial ?_
                refine Wp.call h rfl rfl (by decide) ?_
                rintro _ M1 ⟨rfl, h⟩
                show Wp 3 901 81 [some (.inr (.inr (9, 0))), some (.inl x1), some (.inl x2), some (.inl x3), some (.inl x4), some (.inl x5)] [] M1 (rI Q)
                refine Wp.path (k := 1) [] (C := []) (pc' := 82) (ls' := [some (.inr (.inr (9, 0))), some (.inl x1), some (.inl x2), some (.inl x3), some (.inl x4), some (.inl x5)]) (st' := [.inr (.inr (9, 0))]) (M' := M1) rfl trivial ?_
                refine Wp.call h rfl rfl (by decide) ?_
                rintro _ M1_1 ⟨rfl, h⟩
                show Wp 3 901 85 [some (.inr (.inr (9, 0))), some (.inl x1), some (.inl x2), some (.inl x3), some (.inl x4), some (.inl x5)] [] M1_1 (rI Q)
                refine Wp.path (k := 2) [] (C := []) (pc' := 89) (ls' := [some (.inr (.inr (9, 0))), some (.inl x1), some (.inl x2), some (.inl x3), some (.inl x4), some (.inl x5)]) (st' := [.inr (.inr (4, 0))]) (M' := M1_1) rfl trivial ?_
                refine Wp.call h rfl rfl (by decide) ?_
                rintro _ M1_2 ⟨r, rfl, h⟩
                show Wp 3 901 92 [some (.inr (.inr (9, 0))), some (.inl x1), some (.inl x2), some (.inl x3), some (.inl x4), some (.inl x5)] [.inl r] M1_2 (rI Q)
                exact Wp.ret rfl ⟨_, rfl, h⟩
/-- X9_clear -/
def E_902 (M : Mm) (Q : Int → Mm → Prop) : Prop := Ev 3 902 [.inr (.inr (9, 0))] M (rI Q)
theorem m_902 {M : Mm} {Q Q1 : Int → Mm → Prop} (h : E_902 M Q) (k : (∀ r M1, Q r M1 → Q1 r M1)) : E_902 M Q1 := Ev.mono h (fun v M1 ⟨r, h1, h2⟩ => ⟨r, h1, k _ _ h2⟩)
theorem s_902_0 {M : Mm} {Q : Int → Mm → Prop} (h : (E_402 0 M (fun (r : Int) (M1 : Mm) => (E_403 0 M1 (fun M1_1 : Mm => (E_934 M1_1 (fun M1_2 : Mm => (Q r M1_2)))))))) : E_902 M Q := by
  show Wp 3 902 0 [some (.inr (.inr (9, 0))), none] [] M (rI Q)
  refine Wp.path (k := 2) [] (C := []) (pc' := 4) (ls' := [some (.inr (.inr (9, 0))), none]) (st' := [.inr (.inr (4, 0))]) (M' := M) rfl trivial ?_
  refine Wp.call h rfl rfl (by decide) ?_
  rintro _ M1 ⟨r, rfl, h⟩
  show Wp 3 902 7 [some (.inr (.inr (9, 0))), none] [.inl r] M1 (rI Q)
  refine Wp.path (k := 3) [] (C := []) (pc' := 12) (ls' := [some (.inr (.inr (9, 0))), some (.inl r)]) (st' := [.inr (.inr (4, 0))]) (M' := M1) rfl trivial ?_
  refine Wp.call h rfl rfl (by decide) ?_
  rintro _ M1_1 ⟨rfl, h⟩
  show Wp 3 902 15 [some (.inr (.inr (9, 0))), some (.inl r)] [] M1_1 (rI Q)
  refine Wp.path (k := 1) [] (C := []) (pc' := 16) (ls' := [some (.inr (.inr (9, 0))), some (.inl r)]) (st' := [.inr (.inr (9, 0))]) (M' := M1_1) rfl trivial ?_
  refine Wp.call h rfl rfl (by decide) ?_
  rintro _ M1_2 ⟨rfl, h⟩
  show Wp 3 902 19 [some (.inr (.inr (9, 0))), some (.inl r)] [] M1_2 (rI Q)
  refine Wp.path (k := 1) [] (C := []) (pc' := 20) (ls' := [some (.inr (.inr (9, 0))), some (.inl r)]) (st' := [.inl r]) (M' := M1_2) rfl trivial ?_
  exact Wp.ret rfl ⟨_, rfl, h⟩
/-- X9_errorPosition -/
def E_905 (M : Mm) (Q : Int → Mm → Prop) : Prop := Ev 0 905 [.inr (.inr (9, 0))] M (rI Q)
theorem m_905 {M : Mm} {Q Q1 : Int → Mm → Prop} (h : E_905 M Q) (k : (∀ r M1, Q r M1 → Q1 r M1)) : E_905 M Q1 := Ev.mono h (fun v M1 ⟨r, h1, h2⟩ => ⟨r, h1, k _ _ h2⟩)
theorem s_905_0 {M : Mm} {Q : Int → Mm → Prop} (h : (Q (M.1 6 0 4) M)) : E_905 M Q := by
  show Wp 0 905 0 [some (.inr (.inr (9, 0)))] [] M (rI Q)
  refine Wp.path (k := 3) [] (C := []) (pc' := 7) (ls' := [some (.inr (.inr (9, 0)))]) (st' := [.inl (M.1 6 0 4)]) (M' := M) rfl trivial ?_
  exact Wp.ret rfl ⟨_, rfl, h⟩
/-- X9_contains -/
def E_910 (x1 : Int) (x2 : Int) (M : Mm) (Q : Int → Mm → Prop) : Prop := Ev 1 910 [.inr (.inr (9, 0)), .inl x1, .inl x2] M (rI Q)
theorem m_910 {x1 : Int} {x2 : Int} {M : Mm} {Q Q1 : Int → Mm → Prop} (h : E_910 x1 x2 M Q) (k : (∀ r M1, Q r M1 → Q1 r M1)) : E_910 x1 x2 M Q1 := Ev.mono h (fun v M1 ⟨r, h1, h2⟩ => ⟨r, h1, k _ _ h2⟩)
theorem s_910_0 {x1 : Int} {x2 : Int} {M : Mm} {Q : Int → Mm → Prop} (h : ((isCellV x1 x2 ≠ 0 → ((hasV (M.1 500 0) x1 x2 = 0 ∨ hasV (M.1 500 0) x1 x2 = 1) ∧ (Q (hasV (M.1 500 0) x1 x2) M))) ∧ (isCellV x1 x2 = 0 → False))) : E_910 x1 x2 M Q := by
  show Wp 1 910 0 [some (.inr (.inr (9, 0))), some (.inl x1), some (.inl x2)] [] M (rI Q)
  refine Wp.path (k := 2) [] (C := []) (pc' := 2) (ls' := [some (.inr (.inr (9, 0))), some (.inl x1), some (.inl x2)]) (st' := [.inl x2, .inl x1]) (M' := M) rfl trivial ?_
  refine Wp.call (e935) rfl rfl (by decide) ?_
  rintro v_ M_ ⟨eM_, ev_⟩
  rw [eM_, ev_]
  clear eM_ ev_ v_ M_
  show Wp 1 910 5 [some (.inr (.inr (9, 0))), some (.inl x1), some (.inl x2)] [.inl (isCellV x1 x2)] M (rI Q)
  rcases Decidable.em (isCellV x1 x2 = 0) with c_1 | c_1
  · replace h := h.2 c_1
    refine Wp.path (k := 1) [0] (C := [isCellV x1 x2 = 0]) (pc' := 8) (ls' := [some (.inr (.inr (9, 0))), some (.inl x1), some (.inl x2)]) (st' := []) (M' := M) rfl c_1 ?_
    exact h.elim
  · replace h := h.1 c_1
    refine Wp.path (k := 1) [1] (C := [isCellV x1 x2 ≠ 0]) (pc' := 18) (ls' := [some (.inr (.inr (9, 0))), some (.inl x1), some (.inl x2)]) (st' := []) (M' := M) rfl c_1 ?_
    refine Wp.path (k := 4) [] (C := []) (pc' := 24) (ls' := [some (.inr (.inr (9, 0))), some (.inl x1), some (.inl x2)]) (st' := [.inl x2, .inl x1, .inr (.inr (4, 0))]) (M' := M) rfl trivial ?_
    refine Wp.call (e401) rfl rfl (by decide) ?_
    rintro v_ M_ ⟨eM_, ev_⟩
    rw [eM_, ev_]
    clear eM_ ev_ v_ M_
    show Wp 1 910 27 [some (.inr (.inr (9, 0))), some (.inl x1), some (.inl x2)] [.inl (hasV (M.1 500 0) x1 x2)] M (rI Q)
    exact Wp.ret (by rcases h.1 with e_r | e_r <;> rw [e_r] <;> rfl) ⟨_, rfl, h.2⟩
/-- X9_edges -/
def E_911 (M : Mm) (Q : Int → Mm → Prop) : Prop := Ev 6 911 [.inr (.inr (9, 0))] M (rI Q)
theorem m_911 {M : Mm} {Q Q1 : Int → Mm → Prop} (h : E_911 M Q) (k : (∀ r M1, Q r M1 → Q1 r M1)) : E_911 M Q1 := Ev.mono h (fun v M1 ⟨r, h1, h2⟩ => ⟨r, h1, k _ _ h2⟩)
theorem s_911_0 {M : Mm} {Q : Int → Mm → Prop} (h : (E_502 0 M (fun M1 : Mm => (Q (M1.1 0 0 8) M1)))) : E_911 M Q := by
  show Wp 6 911 0 [some (.inr (.inr (9, 0)))] [] M (rI Q)
  refine Wp.path (k := 4) [] (C := []) (pc' := 8) (ls' := [some (.inr (.inr (9, 0)))]) (st' := [.inr (.inr (4, 0)), .inr (.inr (5, 0))]) (M' := M) rfl trivial ?_
  refine Wp.call h rfl rfl (by decide) ?_
  rintro _ M1 ⟨rfl, h⟩
  show Wp 6 911 11 [some (.inr (.inr (9, 0)))] [] M1 (rI Q)
  refine Wp.path (k := 4) [] (C := []) (pc' := 21) (ls' := [some (.inr (.inr (9, 0)))]) (st' := [.inl (M1.1 0 0 8)]) (M' := M1) rfl trivial ?_
  exact Wp.ret rfl ⟨_, rfl, h⟩
/-- X9_edge -/
def E_912 (x1 : Int) (x2 : Int) (M : Mm) (Q : Int → Mm → Prop) : Prop := Ev 6 912 [.inr (.inr (9, 0)), .inl x1, .inl x2] M (rI Q)
theorem m_912 {x1 : Int} {x2 : Int} {M : Mm} {Q Q1 : Int → Mm → Prop} (h : E_912 x1 x2 M Q) (k : (∀ r M1, Q r M1 → Q1 r M1)) : E_912 x1 x2 M Q1 := Ev.mono h (fun v M1 ⟨r, h1, h2⟩ => ⟨r, h1, k _ _ h2⟩)
theorem s_912_0 {x1 : Int} {x2 : Int} {M : Mm} {Q : Int → Mm → Prop} (h : (E_502 0 M (fun M1 : Mm => ((x1 < 0 → False) ∧ (0 ≤ x1 → ((x1 < M1.1 0 0 8 → ((x2 < 0 → False) ∧ (0 ≤ x2 → ((x2 ≤ 6 → (E_519 x1 x2 M1 (fun (r : Int) (M1_1 : Mm) => (Q r M1_1)))) ∧ (6 < x2 → False))))) ∧ (M1.1 0 0 8 ≤ x1 → False))))))) : E_912 x1 x2 M Q := by
  show Wp 6 912 0 [some (.inr (.inr (9, 0))), some (.inl x1), some (.inl x2)] [] M (rI Q)
  refine Wp.path (k := 4) [] (C := []) (pc' := 8) (ls' := [some (.inr (.inr (9, 0))), some (.inl x1), some (.inl x2)]) (st' := [.inr (.inr (4, 0)), .inr (.inr (5, 0))]) (M' := M) rfl trivial ?_
  refine Wp.call h rfl rfl (by decide) ?_
  rintro _ M1 ⟨rfl, h⟩
  show Wp 6 912 11 [some (.inr (.inr (9, 0))), some (.inl x1), some (.inl x2)] [] M1 (rI Q)
  refine Wp.path (k := 1) [] (C := []) (pc' := 12) (ls' := [some (.inr (.inr (9, 0))), some (.inl x1), some (.inl x2)]) (st' := [.inl x1]) (M' := M1) rfl trivial ?_
  rcases Int.lt_or_le (x1) (0) with c_1 | c_1
  · replace h := h.1 c_1
    refine Wp.path (k := 1) [1] (C := [x1 < 0]) (pc' := 29) (ls' := [some (.inr (.inr (9, 0))), some (.inl x1), some (.inl x2)]) (st' := []) (M' := M1) rfl c_1 ?_
    exact h.elim
  · replace h := h.2 c_1
    refine Wp.path (k := 1) [0] (C := [0 ≤ x1]) (pc' := 15) (ls' := [some (.inr (.inr (9, 0))), some (.inl x1), some (.inl x2)]) (st' := []) (M' := M1) rfl c_1 ?_
    refine Wp.path (k := 5) [] (C := []) (pc' := 26) (ls' := [some (.inr (.inr (9, 0))), some (.inl x1), some (.inl x2)]) (st' := [.inl (M1.1 0 0 8), .inl x1]) (M' := M1) rfl trivial ?_
    rcases Int.lt_or_le (x1) (M1.1 0 0 8) with c_2 | c_2
    · replace h := h.1 c_2
      refine Wp.path (k := 1) [1] (C := [x1 < M1.1 0 0 8]) (pc' := 39) (ls' := [some (.inr (.inr (9, 0))), some (.inl x1), some (.inl x2)]) (st' := []) (M' := M1) rfl c_2 ?_
      refine Wp.path (k := 1) [] (C := []) (pc' := 40) (ls' := [some (.inr (.inr (9, 0))), some (.inl x1), some (.inl x2)]) (st' := [.inl x2]) (M' := M1) rfl trivial ?_
      rcases Int.lt_or_le (x2) (0) with c_3 | c_3
      · replace h := h.1 c_3
        refine Wp.path (k := 1) [1] (C := [x2 < 0]) (pc' := 49) (ls' := [some (.inr (.inr (9, 0))), some (.inl x1), some (.inl x2)]) (st' := []) (M' := M1) rfl c_3 ?_
        exact h.elim
      · replace h := h.2 c_3
        refine Wp.path (k := 1) [0] (C := [0 ≤ x2]) (pc' := 43) (ls' := [some (.inr (.inr (9, 0))), some (.inl x1), some (.inl x2)]) (st' := []) (M' := M1) rfl c_3 ?_
        refine Wp.path (k := 2) [] (C := []) (pc' := 46) (ls' := [some (.inr (.inr (9, 0))), some (.inl x1), some (.inl x2)]) (st' := [.inl 6, .inl x2]) (M' := M1) rfl trivial ?_
        rcases Int.lt_or_le (6) (x2) with c_4 | c_4
        · replace h := h.2 c_4
          refine Wp.path (k := 1) [0] (C := [6 < x2]) (pc' := 49) (ls' := [some (.inr (.inr (9, 0))), some (.inl x1), some (.inl x2)]) (st' := []) (M' := M1) rfl c_4 ?_
          exact h.elim
        · replace h := h.1 c_4
          refine Wp.path (k := 1) [1] (C := [x2 ≤ 6]) (pc' := 59) (ls' := [some (.inr (.inr (9, 0))), some (.inl x1), some (.inl x2)]) (st' := []) (M' := M1) rfl c_4 ?_
          refine Wp.path (k := 4) [] (C := []) (pc' := 65) (ls' := [some (.inr (.inr (9, 0))), some (.inl x1), some (.inl x2)]) (st' := [.inl x2, .inl x1, .inr (.inr (5, 0))]) (M' := M1) rfl trivial ?_
          refine Wp.call h rfl rfl (by decide) ?_
          rintro _ M1_1 ⟨r, rfl, h⟩
          show Wp 6 912 68 [some (.inr (.inr (9, 0))), some (.inl x1), some (.inl x2)] [.inl r] M1_1 (rI Q)
          exact Wp.ret rfl ⟨_, rfl, h⟩
    · replace h := h.2 c_2
      refine Wp.path (k := 1) [0] (C := [M1.1 0 0 8 ≤ x1]) (pc' := 29) (ls' := [some (.inr (.inr (9, 0))), some (.inl x1), some (.inl x2)]) (st' := []) (M' := M1) rfl c_2 ?_
      exact h.elim
/-- X9_corners -/
def E_913 (M : Mm) (Q : Int → Mm → Prop) : Prop := Ev 3 913 [.inr (.inr (9, 0))] M (rI Q)
theorem m_913 {M : Mm} {Q Q1 : Int → Mm → Prop} (h : E_913 M Q) (k : (∀ r M1, Q r M1 → Q1 r M1)) : E_913 M Q1 := Ev.mono h (fun v M1 ⟨r, h1, h2⟩ => ⟨r, h1, k _ _ h2⟩)
theorem s_913_0 {M : Mm} {Q : Int → Mm → Prop} (h : (E_413 0 M (fun (r : Int) (M1 : Mm) => (Q r M1)))) : E_913 M Q := by
  show Wp 3 913 0 [some (.inr (.inr (9, 0)))] [] M (rI Q)
  refine Wp.path (k := 2) [] (C := []) (pc' := 4) (ls' := [some (.inr (.inr (9, 0)))]) (st' := [.inr (.inr (4, 0))]) (M' := M) rfl trivial ?_
  refine Wp.call h rfl rfl (by decide) ?_
  rintro _ M1 ⟨r, rfl, h⟩
  show Wp 3 913 7 [some (.inr (.inr (9, 0)))] [.inl r] M1 (rI Q)
  exact Wp.ret rfl ⟨_, rfl, h⟩
/-- X9_groups -/
def E_914 (M : Mm) (Q : Int → Mm → Prop) : Prop := Ev 6 914 [.inr (.inr (9, 0))] M (rI Q)
theorem m_914 {M : Mm} {Q Q1 : Int → Mm → Prop} (h : E_914 M Q) (k : (∀ r M1, Q r M1 → Q1 r M1)) : E_914 M Q1 := Ev.mono h (fun v M1 ⟨r, h1, h2⟩ => ⟨r, h1, k _ _ h2⟩)
theorem s_914_0 {M : Mm} {Q : Int → Mm → Prop} (h : (E_502 0 M (fun M1 : Mm => (Q (M1.1 0 0 9) M1)))) : E_914 M Q := by
  show Wp 6 914 0 [some (.inr (.inr (9, 0)))] [] M (rI Q)
  refine Wp.path (k := 4) [] (C := []) (pc' := 8) (ls' := [some (.inr (.inr (9, 0)))]) (st' := [.inr (.inr (4, 0)), .inr (.inr (5, 0))]) (M' := M) rfl trivial ?_
  refine Wp.call h rfl rfl (by decide) ?_
  rintro _ M1 ⟨rfl, h⟩
  show Wp 6 914 11 [some (.inr (.inr (9, 0)))] [] M1 (rI Q)
  refine Wp.path (k := 4) [] (C := []) (pc' := 21) (ls' := [some (.inr (.inr (9, 0)))]) (st' := [.inl (M1.1 0 0 9)]) (M' := M1) rfl trivial ?_
  exact Wp.ret rfl ⟨_, rfl, h⟩
/-- X9_group -/
def E_915 (x1 : Int) (x2 : Int) (M : Mm) (Q : Int → Mm → Prop) : Prop := Ev 6 915 [.inr (.inr (9, 0)), .inl x1, .inl x2] M (rI Q)
theorem m_915 {x1 : Int} {x2 : Int} {M : Mm} {Q Q1 : Int → Mm → Prop} (h : E_915 x1 x2 M Q) (k : (∀ r M1, Q r M1 → Q1 r M1)) : E_915 x1 x2 M Q1 := Ev.mono h (fun v M1 ⟨r, h1, h2⟩ => ⟨r, h1, k _ _ h2⟩)
theorem s_915_0 {x1 : Int} {x2 : Int} {M : Mm} {Q : Int → Mm → Prop} (h : (E_502 0 M (fun M1 : Mm => ((x1 < 0 → False) ∧ (0 ≤ x1 → ((x1 < M1.1 0 0 9 → ((x2 < 0 → False) ∧ (0 ≤ x2 → ((x2 ≤ 3 → (E_10 x1 x2 M1 (fun (r : Int) (M1_1 : Mm) => (Q r M1_1)))) ∧ (3 < x2 → False))))) ∧ (M1.1 0 0 9 ≤ x1 → False))))))) : E_915 x1 x2 M Q := by
  show Wp 6 915 0 [some (.inr (.inr (9, 0))), some (.inl x1), some (.inl x2)] [] M (rI Q)
  refine Wp.path (k := 4) [] (C := []) (pc' := 8) (ls' := [some (.inr (.inr (9, 0))), some (.inl x1), some (.inl x2)]) (st' := [.inr (.inr (4, 0)), .inr (.inr (5, 0))]) (M' := M) rfl trivial ?_
  refine Wp.call h rfl rfl (by decide) ?_
  rintro _ M1 ⟨rfl, h⟩
  show Wp 6 915 11 [some (.inr (.inr (9, 0))), some (.inl x1), some (.inl x2)] [] M1 (rI Q)
  refine Wp.path (k := 1) [] (C := []) (pc' := 12) (ls' := [some (.inr (.inr (9, 0))), some (.inl x1), some (.inl x2)]) (st' := [.inl x1]) (M' := M1) rfl trivial ?_
  rcases Int.lt_or_le (x1) (0) with c_1 | c_1
  · replace h := h.1 c_1
    refine Wp.path (k := 1) [1] (C := [x1 < 0]) (pc' := 29) (ls' := [some (.inr (.inr (9, 0))), some (.inl x1), some (.inl x2)]) (st' := []) (M' := M1) rfl c_1 ?_
    exact h.elim
  · replace h := h.2 c_1
    refine Wp.path (k := 1) [0] (C := [0 ≤ x1]) (pc' := 15) (ls' := [some (.inr (.inr (9, 0))), some (.inl x1), some (.inl x2)]) (st' := []) (M' := M1) rfl c_1 ?_
    refine Wp.path (k := 5) [] (C := []) (pc' := 26) (ls' := [some (.inr (.inr (9, 0))), some (.inl x1), some (.inl x2)]) (st' := [.inl (M1.1 0 0 9), .inl x1]) (M' := M1) rfl trivial ?_
    rcases Int.lt_or_le (x1) (M1.1 0 0 9) with c_2 | c_2
    · replace h := h.1 c_2
      refine Wp.path (k := 1) [1] (C := [x1 < M1.1 0 0 9]) (pc' := 39) (ls' := [some (.inr (.inr (9, 0))), some (.inl x1), some (.inl x2)]) (st' := []) (M' := M1) rfl c_2 ?_
      refine Wp.path (k := 1) [] (C := []) (pc' := 40) (ls' := [some (.inr (.inr (9, 0))), some (.inl x1), some (.inl x2)]) (st' := [.inl x2]) (M' := M1) rfl trivial ?_
      rcases Int.lt_or_le (x2) (0) with c_3 | c_3
      · replace h := h.1 c_3
        refine Wp.path (k := 1) [1] (C := [x2 < 0]) (pc' := 48) (ls' := [some (.inr (.inr (9, 0))), some (.inl x1), some (.inl x2)]) (st' := []) (M' := M1) rfl c_3 ?_
        exact h.elim
      · replace h := h.2 c_3
        refine Wp.path (k := 1) [0] (C := [0 ≤ x2]) (pc' := 43) (ls' := [some (.inr (.inr (9, 0))), some (.inl x1), some (.inl x2)]) (st' := []) (M' := M1) rfl c_3 ?_
        refine Wp.path (k := 2) [] (C := []) (pc' := 45) (ls' := [some (.inr (.inr (9, 0))), some (.inl x1), some (.inl x2)]) (st' := [.inl 3, .inl x2]) (M' := M1) rfl trivial ?_
        rcases Int.lt_or_le (3) (x2) with c_4 | c_4
        · replace h := h.2 c_4
          refine Wp.path (k := 1) [0] (C := [3 < x2]) (pc' := 48) (ls' := [some (.inr (.inr (9, 0))), some (.inl x1), some (.inl x2)]) (st' := []) (M' := M1) rfl c_4 ?_
          exact h.elim
        · replace h := h.1 c_4
          refine Wp.path (k := 1) [1] (C := [x2 ≤ 3]) (pc' := 58) (ls' := [some (.inr (.inr (9, 0))), some (.inl x1), some (.inl x2)]) (st' := []) (M' := M1) rfl c_4 ?_
          refine Wp.path (k := 5) [] (C := []) (pc' := 67) (ls' := [some (.inr (.inr (9, 0))), some (.inl x1), some (.inl x2)]) (st' := [.inl x2, .inl x1, .inr (.inr (0, 0))]) (M' := M1) rfl trivial ?_
          refine Wp.call h rfl rfl (by decide) ?_
          rintro _ M1_1 ⟨r, rfl, h⟩
          show Wp 6 915 70 [some (.inr (.inr (9, 0))), some (.inl x1), some (.inl x2)] [.inl r] M1_1 (rI Q)
          exact Wp.ret rfl ⟨_, rfl, h⟩
    · replace h := h.2 c_2
      refine Wp.path (k := 1) [0] (C := [M1.1 0 0 9 ≤ x1]) (pc' := 29) (ls' := [some (.inr (.inr (9, 0))), some (.inl x1), some (.inl x2)]) (st' := []) (M' := M1) rfl c_2 ?_
      exact h.elim
/-- X9_symmetries -/
def E_916 (M : Mm) (Q : Int → Mm → Prop) : Prop := Ev 3 916 [.inr (.inr (9, 0))] M (rI Q)
theorem m_916 {M : Mm} {Q Q1 : Int → Mm → Prop} (h : E_916 M Q) (k : (∀ r M1, Q r M1 → Q1 r M1)) : E_916 M Q1 := Ev.mono h (fun v M1 ⟨r, h1, h2⟩ => ⟨r, h1, k _ _ h2⟩)
theorem s_916_0 {M : Mm} {Q : Int → Mm → Prop} (h : (E_409 0 2 M (fun (r : Int) (M1 : Mm) => (Q r M1)))) : E_916 M Q := by
  show Wp 3 916 0 [some (.inr (.inr (9, 0)))] [] M (rI Q)
  refine Wp.path (k := 4) [] (C := []) (pc' := 8) (ls' := [some (.inr (.inr (9, 0)))]) (st' := [.inr (.inr (4, 2)), .inr (.inr (4, 0))]) (M' := M) rfl trivial ?_
  refine Wp.call h rfl rfl (by decide) ?_
  rintro _ M1 ⟨r, rfl, h⟩
  show Wp 3 916 11 [some (.inr (.inr (9, 0)))] [.inl r] M1 (rI Q)
  exact Wp.ret rfl ⟨_, rfl, h⟩
/-- X9_height -/
def E_917 (x1 : Int) (x2 : Int) (M : Mm) (Q : Int → Mm → Prop) : Prop := Ev 2 917 [.inr (.inr (9, 0)), .inl x1, .inl x2] M (rI Q)
theorem m_917 {x1 : Int} {x2 : Int} {M : Mm} {Q Q1 : Int → Mm → Prop} (h : E_917 x1 x2 M Q) (k : (∀ r M1, Q r M1 → Q1 r M1)) : E_917 x1 x2 M Q1 := Ev.mono h (fun v M1 ⟨r, h1, h2⟩ => ⟨r, h1, k _ _ h2⟩)
theorem s_917_0 {x1 : Int} {x2 : Int} {M : Mm} {Q : Int → Mm → Prop} (h : ((x1 < 0 → False) ∧ (0 ≤ x1 → ((96 < x1 → False) ∧ (x1 ≤ 96 → ((x2 < 0 → False) ∧ (0 ≤ x2 → ((x2 ≤ 96 → (E_415 0 x1 x2 M (fun (r : Int) (M1 : Mm) => (Q r M1)))) ∧ (96 < x2 → False))))))))) : E_917 x1 x2 M Q := by
  show Wp 2 917 0 [some (.inr (.inr (9, 0))), some (.inl x1), some (.inl x2)] [] M (rI Q)
  refine Wp.path (k := 1) [] (C := []) (pc' := 1) (ls' := [some (.inr (.inr (9, 0))), some (.inl x1), some (.inl x2)]) (st' := [.inl x1]) (M' := M) rfl trivial ?_
  rcases Int.lt_or_le (x1) (0) with c_1 | c_1
  · replace h := h.1 c_1
    refine Wp.path (k := 1) [1] (C := [x1 < 0]) (pc' := 20) (ls' := [some (.inr (.inr (9, 0))), some (.inl x1), some (.inl x2)]) (st' := []) (M' := M) rfl c_1 ?_
    exact h.elim
  · replace h := h.2 c_1
    refine Wp.path (k := 1) [0] (C := [0 ≤ x1]) (pc' := 4) (ls' := [some (.inr (.inr (9, 0))), some (.inl x1), some (.inl x2)]) (st' := []) (M' := M) rfl c_1 ?_
    refine Wp.path (k := 2) [] (C := []) (pc' := 7) (ls' := [some (.inr (.inr (9, 0))), some (.inl x1), some (.inl x2)]) (st' := [.inl 96, .inl x1]) (M' := M) rfl trivial ?_
    rcases Int.lt_or_le (96) (x1) with c_2 | c_2
    · replace h := h.1 c_2
      refine Wp.path (k := 1) [1] (C := [96 < x1]) (pc' := 20) (ls' := [some (.inr (.inr (9, 0))), some (.inl x1), some (.inl x2)]) (st' := []) (M' := M) rfl c_2 ?_
      exact h.elim
    · replace h := h.2 c_2
      refine Wp.path (k := 1) [0] (C := [x1 ≤ 96]) (pc' := 10) (ls' := [some (.inr (.inr (9, 0))), some (.inl x1), some (.inl x2)]) (st' := []) (M' := M) rfl c_2 ?_
      refine Wp.path (k := 1) [] (C := []) (pc' := 11) (ls' := [some (.inr (.inr (9, 0))), some (.inl x1), some (.inl x2)]) (st' := [.inl x2]) (M' := M) rfl trivial ?_
      rcases Int.lt_or_le (x2) (0) with c_3 | c_3
      · replace h := h.1 c_3
        refine Wp.path (k := 1) [1] (C := [x2 < 0]) (pc' := 20) (ls' := [some (.inr (.inr (9, 0))), some (.inl x1), some (.inl x2)]) (st' := []) (M' := M) rfl c_3 ?_
        exact h.elim
      · replace h := h.2 c_3
        refine Wp.path (k := 1) [0] (C := [0 ≤ x2]) (pc' := 14) (ls' := [some (.inr (.inr (9, 0))), some (.inl x1), some (.inl x2)]) (st' := []) (M' := M) rfl c_3 ?_
        refine Wp.path (k := 2) [] (C := []) (pc' := 17) (ls' := [some (.inr (.inr (9, 0))), some (.inl x1), some (.inl x2)]) (st' := [.inl 96, .inl x2]) (M' := M) rfl trivial ?_
        rcases Int.lt_or_le (96) (x2) with c_4 | c_4
        · replace h := h.2 c_4
          refine Wp.path (k := 1) [0] (C := [96 < x2]) (pc' := 20) (ls' := [some (.inr (.inr (9, 0))), some (.inl x1), some (.inl x2)]) (st' := []) (M' := M) rfl c_4 ?_
          exact h.elim
        · replace h := h.1 c_4
          refine Wp.path (k := 1) [1] (C := [x2 ≤ 96]) (pc' := 30) (ls' := [some (.inr (.inr (9, 0))), some (.inl x1), some (.inl x2)]) (st' := []) (M' := M) rfl c_4 ?_
          refine Wp.path (k := 4) [] (C := []) (pc' := 36) (ls' := [some (.inr (.inr (9, 0))), some (.inl x1), some (.inl x2)]) (st' := [.inl x2, .inl x1, .inr (.inr (4, 0))]) (M' := M) rfl trivial ?_
          refine Wp.call h rfl rfl (by decide) ?_
          rintro _ M1 ⟨r, rfl, h⟩
          show Wp 2 917 39 [some (.inr (.inr (9, 0))), some (.inl x1), some (.inl x2)] [.inl r] M1 (rI Q)
          exact Wp.ret rfl ⟨_, rfl, h⟩
/-- X9_face -/
def E_918 (x1 : Int) (x2 : Int) (M : Mm) (Q : Int → Mm → Prop) : Prop := Ev 6 918 [.inr (.inr (9, 0)), .inl x1, .inl x2] M (rI Q)
theorem m_918 {x1 : Int} {x2 : Int} {M : Mm} {Q Q1 : Int → Mm → Prop} (h : E_918 x1 x2 M Q) (k : (∀ r M1, Q r M1 → Q1 r M1)) : E_918 x1 x2 M Q1 := Ev.mono h (fun v M1 ⟨r, h1, h2⟩ => ⟨r, h1, k _ _ h2⟩)
theorem s_918_0 {x1 : Int} {x2 : Int} {M : Mm} {Q : Int → Mm → Prop} (h : ((isCellV x1 x2 ≠ 0 → (E_502 0 M (fun M1 : Mm => (E_518 x1 x2 M1 (fun (r : Int) (M1_1 : Mm) => (Q r M1_1)))))) ∧ (isCellV x1 x2 = 0 → False))) : E_918 x1 x2 M Q := by
  show Wp 6 918 0 [some (.inr (.inr (9, 0))), some (.inl x1), some (.inl x2)] [] M (rI Q)
  refine Wp.path (k := 2) [] (C := []) (pc' := 2) (ls' := [some (.inr (.inr (9, 0))), some (.inl x1), some (.inl x2)]) (st' := [.inl x2, .inl x1]) (M' := M) rfl trivial ?_
  refine Wp.call (e935) rfl rfl (by decide) ?_
  rintro v_ M_ ⟨eM_, ev_⟩
  rw [eM_, ev_]
  clear eM_ ev_ v_ M_
  show Wp 6 918 5 [some (.inr (.inr (9, 0))), some (.inl x1), some (.inl x2)] [.inl (isCellV x1 x2)] M (rI Q)
  rcases Decidable.em (isCellV x1 x2 = 0) with c_1 | c_1
  · replace h := h.2 c_1
    refine Wp.path (k := 1) [0] (C := [isCellV x1 x2 = 0]) (pc' := 8) (ls' := [some (.inr (.inr (9, 0))), some (.inl x1), some (.inl x2)]) (st' := []) (M' := M) rfl c_1 ?_
    exact h.elim
  · replace h := h.1 c_1
    refine Wp.path (k := 1) [1] (C := [isCellV x1 x2 ≠ 0]) (pc' := 18) (ls' := [some (.inr (.inr (9, 0))), some (.inl x1), some (.inl x2)]) (st' := []) (M' := M) rfl c_1 ?_
    refine Wp.path (k := 4) [] (C := []) (pc' := 26) (ls' := [some (.inr (.inr (9, 0))), some (.inl x1), some (.inl x2)]) (st' := [.inr (.inr (4, 0)), .inr (.inr (5, 0))]) (M' := M) rfl trivial ?_
    refine Wp.call h rfl rfl (by decide) ?_
    rintro _ M1 ⟨rfl, h⟩
    show Wp 6 918 29 [some (.inr (.inr (9, 0))), some (.inl x1), some (.inl x2)] [] M1 (rI Q)
    refine Wp.path (k := 4) [] (C := []) (pc' := 35) (ls' := [some (.inr (.inr (9, 0))), some (.inl x1), some (.inl x2)]) (st' := [.inl x2, .inl x1, .inr (.inr (5, 0))]) (M' := M1) rfl trivial ?_
    refine Wp.call h rfl rfl (by decide) ?_
    rintro _ M1_1 ⟨r, rfl, h⟩
    show Wp 6 918 38 [some (.inr (.inr (9, 0))), some (.inl x1), some (.inl x2)] [.inl r] M1_1 (rI Q)
    exact Wp.ret rfl ⟨_, rfl, h⟩
/-- X9_area -/
def E_919 (x1 : Int) (M : Mm) (Q : Int → Mm → Prop) : Prop := Ev 6 919 [.inr (.inr (9, 0)), .inl x1] M (rI Q)
theorem m_919 {x1 : Int} {M : Mm} {Q Q1 : Int → Mm → Prop} (h : E_919 x1 M Q) (k : (∀ r M1, Q r M1 → Q1 r M1)) : E_919 x1 M Q1 := Ev.mono h (fun v M1 ⟨r, h1, h2⟩ => ⟨r, h1, k _ _ h2⟩)
theorem s_919_0 {x1 : Int} {M : Mm} {Q : Int → Mm → Prop} (h : ((x1 < 0 → False) ∧ (0 ≤ x1 → ((x1 ≤ 24 → (E_502 0 M (fun M1 : Mm => (E_514 x1 M1 (fun (r : Int) (M1_1 : Mm) => (Q r M1_1)))))) ∧ (24 < x1 → False))))) : E_919 x1 M Q := by
  show Wp 6 919 0 [some (.inr (.inr (9, 0))), some (.inl x1)] [] M (rI Q)
  refine Wp.path (k := 1) [] (C := []) (pc' := 1) (ls' := [some (.inr (.inr (9, 0))), some (.inl x1)]) (st' := [.inl x1]) (M' := M) rfl trivial ?_
  rcases Int.lt_or_le (x1) (0) with c_1 | c_1
  · replace h := h.1 c_1
    refine Wp.path (k := 1) [1] (C := [x1 < 0]) (pc' := 10) (ls' := [some (.inr (.inr (9, 0))), some (.inl x1)]) (st' := []) (M' := M) rfl c_1 ?_
    exact h.elim
  · replace h := h.2 c_1
    refine Wp.path (k := 1) [0] (C := [0 ≤ x1]) (pc' := 4) (ls' := [some (.inr (.inr (9, 0))), some (.inl x1)]) (st' := []) (M' := M) rfl c_1 ?_
    refine Wp.path (k := 2) [] (C := []) (pc' := 7) (ls' := [some (.inr (.inr (9, 0))), some (.inl x1)]) (st' := [.inl 24, .inl x1]) (M' := M) rfl trivial ?_
    rcases Int.lt_or_le (24) (x1) with c_2 | c_2
    · replace h := h.2 c_2
      refine Wp.path (k := 1) [0] (C := [24 < x1]) (pc' := 10) (ls' := [some (.inr (.inr (9, 0))), some (.inl x1)]) (st' := []) (M' := M) rfl c_2 ?_
      exact h.elim
    · replace h := h.1 c_2
      refine Wp.path (k := 1) [1] (C := [x1 ≤ 24]) (pc' := 20) (ls' := [some (.inr (.inr (9, 0))), some (.inl x1)]) (st' := []) (M' := M) rfl c_2 ?_
      refine Wp.path (k := 4) [] (C := []) (pc' := 28) (ls' := [some (.inr (.inr (9, 0))), some (.inl x1)]) (st' := [.inr (.inr (4, 0)), .inr (.inr (5, 0))]) (M' := M) rfl trivial ?_
      refine Wp.call h rfl rfl (by decide) ?_
      rintro _ M1 ⟨rfl, h⟩
      show Wp 6 919 31 [some (.inr (.inr (9, 0))), some (.inl x1)] [] M1 (rI Q)
      refine Wp.path (k := 3) [] (C := []) (pc' := 36) (ls' := [some (.inr (.inr (9, 0))), some (.inl x1)]) (st' := [.inl x1, .inr (.inr (5, 0))]) (M' := M1) rfl trivial ?_
      refine Wp.call h rfl rfl (by decide) ?_
      rintro _ M1_1 ⟨r, rfl, h⟩
      show Wp 6 919 39 [some (.inr (.inr (9, 0))), some (.inl x1)] [.inl r] M1_1 (rI Q)
      exact Wp.ret rfl ⟨_, rfl, h⟩
/-- X9_volume -/
def E_920 (M : Mm) (Q : Int → Mm → Prop) : Prop := Ev 6 920 [.inr (.inr (9, 0))] M (rI Q)
theorem m_920 {M : Mm} {Q Q1 : Int → Mm → Prop} (h : E_920 M Q) (k : (∀ r M1, Q r M1 → Q1 r M1)) : E_920 M Q1 := Ev.mono h (fun v M1 ⟨r, h1, h2⟩ => ⟨r, h1, k _ _ h2⟩)
theorem s_920_0 {M : Mm} {Q : Int → Mm → Prop} (h : (E_502 0 M (fun M1 : Mm => (E_515 M1 (fun (r : Int) (M1_1 : Mm) => (Q r M1_1)))))) : E_920 M Q := by
  show Wp 6 920 0 [some (.inr (.inr (9, 0)))] [] M (rI Q)
  refine Wp.path (k := 4) [] (C := []) (pc' := 8) (ls' := [some (.inr (.inr (9, 0)))]) (st' := [.inr (.inr (4, 0)), .inr (.inr (5, 0))]) (M' := M) rfl trivial ?_
  refine Wp.call h rfl rfl (by decide) ?_
  rintro _ M1 ⟨rfl, h⟩
  show Wp 6 920 11 [some (.inr (.inr (9, 0)))] [] M1 (rI Q)
  refine Wp.path (k := 2) [] (C := []) (pc' := 15) (ls' := [some (.inr (.inr (9, 0)))]) (st' := [.inr (.inr (5, 0))]) (M' := M1) rfl trivial ?_
  refine Wp.call h rfl rfl (by decide) ?_
  rintro _ M1_1 ⟨r, rfl, h⟩
  show Wp 6 920 18 [some (.inr (.inr (9, 0)))] [.inl r] M1_1 (rI Q)
  exact Wp.ret rfl ⟨_, rfl, h⟩
/-- X9_phases -/
def E_921 (M : Mm) (Q : Int → Mm → Prop) : Prop := Ev 6 921 [.inr (.inr (9, 0))] M (rI Q)
theorem m_921 {M : Mm} {Q Q1 : Int → Mm → Prop} (h : E_921 M Q) (k : (∀ r M1, Q r M1 → Q1 r M1)) : E_921 M Q1 := Ev.mono h (fun v M1 ⟨r, h1, h2⟩ => ⟨r, h1, k _ _ h2⟩)
theorem s_921_0 {M : Mm} {Q : Int → Mm → Prop} (h : (E_502 0 M (fun M1 : Mm => (Q (M1.1 5 0 11) M1)))) : E_921 M Q := by
  show Wp 6 921 0 [some (.inr (.inr (9, 0)))] [] M (rI Q)
  refine Wp.path (k := 4) [] (C := []) (pc' := 8) (ls' := [some (.inr (.inr (9, 0)))]) (st' := [.inr (.inr (4, 0)), .inr (.inr (5, 0))]) (M' := M) rfl trivial ?_
  refine Wp.call h rfl rfl (by decide) ?_
  rintro _ M1 ⟨rfl, h⟩
  show Wp 6 921 11 [some (.inr (.inr (9, 0)))] [] M1 (rI Q)
  refine Wp.path (k := 3) [] (C := []) (pc' := 18) (ls' := [some (.inr (.inr (9, 0)))]) (st' := [.inl (M1.1 5 0 11)]) (M' := M1) rfl trivial ?_
  exact Wp.ret rfl ⟨_, rfl, h⟩
/-- X9_phase -/
def E_922 (x1 : Int) (x2 : Int) (M : Mm) (Q : Int → Mm → Prop) : Prop := Ev 6 922 [.inr (.inr (9, 0)), .inl x1, .inl x2] M (rI Q)
theorem m_922 {x1 : Int} {x2 : Int} {M : Mm} {Q Q1 : Int → Mm → Prop} (h : E_922 x1 x2 M Q) (k : (∀ r M1, Q r M1 → Q1 r M1)) : E_922 x1 x2 M Q1 := Ev.mono h (fun v M1 ⟨r, h1, h2⟩ => ⟨r, h1, k _ _ h2⟩)
theorem s_922_0 {x1 : Int} {x2 : Int} {M : Mm} {Q : Int → Mm → Prop} (h : (E_502 0 M (fun M1 : Mm => ((hpV (M1.1 5 0 11) x1 ≠ 0 → ((x2 < 0 → False) ∧ (0 ≤ x2 → ((x2 ≤ 7 → (E_524 x1 x2 M1 (fun (r : Int) (M1_1 : Mm) => (Q r M1_1)))) ∧ (7 < x2 → False))))) ∧ (hpV (M1.1 5 0 11) x1 = 0 → False))))) : E_922 x1 x2 M Q := by
  show Wp 6 922 0 [some (.inr (.inr (9, 0))), some (.inl x1), some (.inl x2)] [] M (rI Q)
  refine Wp.path (k := 4) [] (C := []) (pc' := 8) (ls' := [some (.inr (.inr (9, 0))), some (.inl x1), some (.inl x2)]) (st' := [.inr (.inr (4, 0)), .inr (.inr (5, 0))]) (M' := M) rfl trivial ?_
  refine Wp.call h rfl rfl (by decide) ?_
  rintro _ M1 ⟨rfl, h⟩
  show Wp 6 922 11 [some (.inr (.inr (9, 0))), some (.inl x1), some (.inl x2)] [] M1 (rI Q)
  refine Wp.path (k := 3) [] (C := []) (pc' := 16) (ls' := [some (.inr (.inr (9, 0))), some (.inl x1), some (.inl x2)]) (st' := [.inl x1, .inr (.inr (5, 0))]) (M' := M1) rfl trivial ?_
  refine Wp.call (e504) rfl rfl (by decide) ?_
  rintro v_ M_ ⟨eM_, ev_⟩
  rw [eM_, ev_]
  clear eM_ ev_ v_ M_
  show Wp 6 922 19 [some (.inr (.inr (9, 0))), some (.inl x1), some (.inl x2)] [.inl (hpV (M1.1 5 0 11) x1)] M1 (rI Q)
  rcases Decidable.em (hpV (M1.1 5 0 11) x1 = 0) with c_1 | c_1
  · replace h := h.2 c_1
    refine Wp.path (k := 1) [0] (C := [hpV (M1.1 5 0 11) x1 = 0]) (pc' := 22) (ls' := [some (.inr (.inr (9, 0))), some (.inl x1), some (.inl x2)]) (st' := []) (M' := M1) rfl c_1 ?_
    exact h.elim
  · replace h := h.1 c_1
    refine Wp.path (k := 1) [1] (C := [hpV (M1.1 5 0 11) x1 ≠ 0]) (pc' := 32) (ls' := [some (.inr (.inr (9, 0))), some (.inl x1), some (.inl x2)]) (st' := []) (M' := M1) rfl c_1 ?_
    refine Wp.path (k := 1) [] (C := []) (pc' := 33) (ls' := [some (.inr (.inr (9, 0))), some (.inl x1), some (.inl x2)]) (st' := [.inl x2]) (M' := M1) rfl trivial ?_
    rcases Int.lt_or_le (x2) (0) with c_2 | c_2
    · replace h := h.1 c_2
      refine Wp.path (k := 1) [1] (C := [x2 < 0]) (pc' := 42) (ls' := [some (.inr (.inr (9, 0))), some (.inl x1), some (.inl x2)]) (st' := []) (M' := M1) rfl c_2 ?_
      exact h.elim
    · replace h := h.2 c_2
      refine Wp.path (k := 1) [0] (C := [0 ≤ x2]) (pc' := 36) (ls' := [some (.inr (.inr (9, 0))), some (.inl x1), some (.inl x2)]) (st' := []) (M' := M1) rfl c_2 ?_
      refine Wp.path (k := 2) [] (C := []) (pc' := 39) (ls' := [some (.inr (.inr (9, 0))), some (.inl x1), some (.inl x2)]) (st' := [.inl 7, .inl x2]) (M' := M1) rfl trivial ?_
      rcases Int.lt_or_le (7) (x2) with c_3 | c_3
      · replace h := h.2 c_3
        refine Wp.path (k := 1) [0] (C := [7 < x2]) (pc' := 42) (ls' := [some (.inr (.inr (9, 0))), some (.inl x1), some (.inl x2)]) (st' := []) (M' := M1) rfl c_3 ?_
        exact h.elim
      · replace h := h.1 c_3
        refine Wp.path (k := 1) [1] (C := [x2 ≤ 7]) (pc' := 52) (ls' := [some (.inr (.inr (9, 0))), some (.inl x1), some (.inl x2)]) (st' := []) (M' := M1) rfl c_3 ?_
        refine Wp.path (k := 4) [] (C := []) (pc' := 58) (ls' := [some (.inr (.inr (9, 0))), some (.inl x1), some (.inl x2)]) (st' := [.inl x2, .inl x1, .inr (.inr (5, 0))]) (M' := M1) rfl trivial ?_
        refine Wp.call h rfl rfl (by decide) ?_
        rintro _ M1_1 ⟨r, rfl, h⟩
        show Wp 6 922 61 [some (.inr (.inr (9, 0))), some (.inl x1), some (.inl x2)] [.inl r] M1_1 (rI Q)
        exact Wp.ret rfl ⟨_, rfl, h⟩
/-- X9_contour -/
def E_923 (x1 : Int) (x2 : Int) (x3 : Int) (M : Mm) (Q : Int → Mm → Prop) : Prop := Ev 6 923 [.inr (.inr (9, 0)), .inl x1, .inl x2, .inl x3] M (rI Q)
theorem m_923 {x1 : Int} {x2 : Int} {x3 : Int} {M : Mm} {Q Q1 : Int → Mm → Prop} (h : E_923 x1 x2 x3 M Q) (k : (∀ r M1, Q r M1 → Q1 r M1)) : E_923 x1 x2 x3 M Q1 := Ev.mono h (fun v M1 ⟨r, h1, h2⟩ => ⟨r, h1, k _ _ h2⟩)
theorem s_923_0 {x1 : Int} {x2 : Int} {x3 : Int} {M : Mm} {Q : Int → Mm → Prop} (h : (E_502 0 M (fun M1 : Mm => ((hcV (M1.1 5 0 11) x1 (M1.1 2 (phV (M1.1 5 0 11) x1) 11) x2 ≠ 0 → ((x3 < 0 → False) ∧ (0 ≤ x3 → ((x3 ≤ 3 → (E_208 (phV (M1.1 5 0 11) x1) x2 x3 M1 (fun (r : Int) (M1_1 : Mm) => (Q r M1_1)))) ∧ (3 < x3 → False))))) ∧ (hcV (M1.1 5 0 11) x1 (M1.1 2 (phV (M1.1 5 0 11) x1) 11) x2 = 0 → False))))) : E_923 x1 x2 x3 M Q := by
  show Wp 6 923 0 [some (.inr (.inr (9, 0))), some (.inl x1), some (.inl x2), some (.inl x3)] [] M (rI Q)
  refine Wp.path (k := 4) [] (C := []) (pc' := 8) (ls' := [some (.inr (.inr (9, 0))), some (.inl x1), some (.inl x2), some (.inl x3)]) (st' := [.inr (.inr (4, 0)), .inr (.inr (5, 0))]) (M' := M) rfl trivial ?_
  refine Wp.call h rfl rfl (by decide) ?_
  rintro _ M1 ⟨rfl, h⟩
  show Wp 6 923 11 [some (.inr (.inr (9, 0))), some (.inl x1), some (.inl x2), some (.inl x3)] [] M1 (rI Q)
  refine Wp.path (k := 4) [] (C := []) (pc' := 17) (ls' := [some (.inr (.inr (9, 0))), some (.inl x1), some (.inl x2), some (.inl x3)]) (st' := [.inl x2, .inl x1, .inr (.inr (5, 0))]) (M' := M1) rfl trivial ?_
  refine Wp.call (e505) rfl rfl (by decide) ?_
  rintro v_ M_ ⟨eM_, ev_⟩
  rw [eM_, ev_]
  clear eM_ ev_ v_ M_
  show Wp 6 923 20 [some (.inr (.inr (9, 0))), some (.inl x1), some (.inl x2), some (.inl x3)] [.inl (hcV (M1.1 5 0 11) x1 (M1.1 2 (phV (M1.1 5 0 11) x1) 11) x2)] M1 (rI Q)
  rcases Decidable.em (hcV (M1.1 5 0 11) x1 (M1.1 2 (phV (M1.1 5 0 11) x1) 11) x2 = 0) with c_1 | c_1
  · replace h := h.2 c_1
    refine Wp.path (k := 1) [0] (C := [hcV (M1.1 5 0 11) x1 (M1.1 2 (phV (M1.1 5 0 11) x1) 11) x2 = 0]) (pc' := 23) (ls' := [some (.inr (.inr (9, 0))), some (.inl x1), some (.inl x2), some (.inl x3)]) (st' := []) (M' := M1) rfl c_1 ?_
    exact h.elim
  · replace h := h.1 c_1
    refine Wp.path (k := 1) [1] (C := [hcV (M1.1 5 0 11) x1 (M1.1 2 (phV (M1.1 5 0 11) x1) 11) x2 ≠ 0]) (pc' := 33) (ls' := [some (.inr (.inr (9, 0))), some (.inl x1), some (.inl x2), some (.inl x3)]) (st' := []) (M' := M1) rfl c_1 ?_
    refine Wp.path (k := 1) [] (C := []) (pc' := 34) (ls' := [some (.inr (.inr (9, 0))), some (.inl x1), some (.inl x2), some (.inl x3)]) (st' := [.inl x3]) (M' := M1) rfl trivial ?_
    rcases Int.lt_or_le (x3) (0) with c_2 | c_2
    · replace h := h.1 c_2
      refine Wp.path (k := 1) [1] (C := [x3 < 0]) (pc' := 42) (ls' := [some (.inr (.inr (9, 0))), some (.inl x1), some (.inl x2), some (.inl x3)]) (st' := []) (M' := M1) rfl c_2 ?_
      exact h.elim
    · replace h := h.2 c_2
      refine Wp.path (k := 1) [0] (C := [0 ≤ x3]) (pc' := 37) (ls' := [some (.inr (.inr (9, 0))), some (.inl x1), some (.inl x2), some (.inl x3)]) (st' := []) (M' := M1) rfl c_2 ?_
      refine Wp.path (k := 2) [] (C := []) (pc' := 39) (ls' := [some (.inr (.inr (9, 0))), some (.inl x1), some (.inl x2), some (.inl x3)]) (st' := [.inl 3, .inl x3]) (M' := M1) rfl trivial ?_
      rcases Int.lt_or_le (3) (x3) with c_3 | c_3
      · replace h := h.2 c_3
        refine Wp.path (k := 1) [0] (C := [3 < x3]) (pc' := 42) (ls' := [some (.inr (.inr (9, 0))), some (.inl x1), some (.inl x2), some (.inl x3)]) (st' := []) (M' := M1) rfl c_3 ?_
        exact h.elim
      · replace h := h.1 c_3
        refine Wp.path (k := 1) [1] (C := [x3 ≤ 3]) (pc' := 52) (ls' := [some (.inr (.inr (9, 0))), some (.inl x1), some (.inl x2), some (.inl x3)]) (st' := []) (M' := M1) rfl c_3 ?_
        refine Wp.path (k := 3) [] (C := []) (pc' := 57) (ls' := [some (.inr (.inr (9, 0))), some (.inl x1), some (.inl x2), some (.inl x3)]) (st' := [.inl x1, .inr (.inr (5, 0))]) (M' := M1) rfl trivial ?_
        refine Wp.call (e503) rfl rfl (by decide) ?_
        rintro v_ M_ ⟨eM_, ev_⟩
        rw [eM_, ev_]
        clear eM_ ev_ v_ M_
        show Wp 6 923 60 [some (.inr (.inr (9, 0))), some (.inl x1), some (.inl x2), some (.inl x3)] [.inr (.inr (3, (phV (M1.1 5 0 11) x1)))] M1 (rI Q)
        refine Wp.path (k := 3) [] (C := []) (pc' := 65) (ls' := [some (.inr (.inr (9, 0))), some (.inl x1), some (.inl x2), some (.inl x3)]) (st' := [.inl x3, .inl x2, .inr (.inr (2, (phV (M1.1 5 0 11) x1)))]) (M' := M1) rfl trivial ?_
        refine Wp.call h rfl rfl (by decide) ?_
        rintro _ M1_1 ⟨r, rfl, h⟩
        show Wp 6 923 68 [some (.inr (.inr (9, 0))), some (.inl x1), some (.inl x2), some (.inl x3)] [.inl r] M1_1 (rI Q)
        exact Wp.ret rfl ⟨_, rfl, h⟩
/-- X9_vertex -/
def E_924 (x1 : Int) (x2 : Int) (x3 : Int) (x4 : Int) (M : Mm) (Q : Int → Mm → Prop) : Prop := Ev 6 924 [.inr (.inr (9, 0)), .inl x1, .inl x2, .inl x3, .inl x4] M (rI Q)
theorem m_924 {x1 : Int} {x2 : Int} {x3 : Int} {x4 : Int} {M : Mm} {Q Q1 : Int → Mm → Prop} (h : E_924 x1 x2 x3 x4 M Q) (k : (∀ r M1, Q r M1 → Q1 r M1)) : E_924 x1 x2 x3 x4 M Q1 := Ev.mono h (fun v M1 ⟨r, h1, h2⟩ => ⟨r, h1, k _ _ h2⟩)
theorem s_924_0 {x1 : Int} {x2 : Int} {x3 : Int} {x4 : Int} {M : Mm} {Q : Int → Mm → Prop} (h : (E_502 0 M (fun M1 : Mm => ((hsV (hcV (M1.1 5 0 11) x1 (M1.1 2 (phV (M1.1 5 0 11) x1) 11) x2) x3 (sofV (M1.1 2 (phV (M1.1 5 0 11) x1) 11) (M1.1 301 (phV (M1.1 5 0 11) x1)) x2) ≠ 0 → ((x4 = 0 → (E_210 (phV (M1.1 5 0 11) x1) x2 x3 M1 (fun (r : Int) (M1_1 : Mm) => ((x4 ≠ 0 → (Q (vyV (atN 340 (M1_1.1 305 (phV (M1.1 5 0 11) x1)) r) (atN 340 (M1_1.1 306 (phV (M1.1 5 0 11) x1)) r) (atN 340 (M1_1.1 307 (phV (M1.1 5 0 11) x1)) r) (atN 340 (M1_1.1 308 (phV (M1.1 5 0 11) x1)) r)) M1_1)) ∧ (x4 = 0 → (Q (vxV (atN 340 (M1_1.1 305 (phV (M1.1 5 0 11) x1)) r) (atN 340 (M1_1.1 306 (phV (M1.1 5 0 11) x1)) r) (atN 340 (M1_1.1 307 (phV (M1.1 5 0 11) x1)) r) (atN 340 (M1_1.1 308 (phV (M1.1 5 0 11) x1)) r)) M1_1)))))) ∧ (x4 ≠ 0 → ((x4 = 1 → (E_210 (phV (M1.1 5 0 11) x1) x2 x3 M1 (fun (r_1 : Int) (M1_2 : Mm) => ((x4 ≠ 0 → (Q (vyV (atN 340 (M1_2.1 305 (phV (M1.1 5 0 11) x1)) r_1) (atN 340 (M1_2.1 306 (phV (M1.1 5 0 11) x1)) r_1) (atN 340 (M1_2.1 307 (phV (M1.1 5 0 11) x1)) r_1) (atN 340 (M1_2.1 308 (phV (M1.1 5 0 11) x1)) r_1)) M1_2)) ∧ (x4 = 0 → (Q (vxV (atN 340 (M1_2.1 305 (phV (M1.1 5 0 11) x1)) r_1) (atN 340 (M1_2.1 306 (phV (M1.1 5 0 11) x1)) r_1) (atN 340 (M1_2.1 307 (phV (M1.1 5 0 11) x1)) r_1) (atN 340 (M1_2.1 308 (phV (M1.1 5 0 11) x1)) r_1)) M1_2)))))) ∧ (x4 ≠ 1 → False))))) ∧ (hsV (hcV (M1.1 5 0 11) x1 (M1.1 2 (phV (M1.1 5 0 11) x1) 11) x2) x3 (sofV (M1.1 2 (phV (M1.1 5 0 11) x1) 11) (M1.1 301 (phV (M1.1 5 0 11) x1)) x2) = 0 → False))))) : E_924 x1 x2 x3 x4 M Q := by
  show Wp 6 924 0 [some (.inr (.inr (9, 0))), some (.inl x1), some (.inl x2), some (.inl x3), some (.inl x4), none, none] [] M (rI Q)
  refine Wp.path (k := 4) [] (C := []) (pc' := 8) (ls' := [some (.inr (.inr (9, 0))), some (.inl x1), some (.inl x2), some (.inl x3), some (.inl x4), none, none]) (st' := [.inr (.inr (4, 0)), .inr (.inr (5, 0))]) (M' := M) rfl trivial ?_
  refine Wp.call h rfl rfl (by decide) ?_
  rintro _ M1 ⟨rfl, h⟩
  show Wp 6 924 11 [some (.inr (.inr (9, 0))), some (.inl x1), some (.inl x2), some (.inl x3), some (.inl x4), none, none] [] M1 (rI Q)
  refine Wp.path (k := 5) [] (C := []) (pc' := 18) (ls' := [some (.inr (.inr (9, 0))), some (.inl x1), some (.inl x2), some (.inl x3), some (.inl x4), none, none]) (st' := [.inl x3, .inl x2, .inl x1, .inr (.inr (5, 0))]) (M' := M1) rfl trivial ?_
  refine Wp.call (e506) rfl rfl (by decide) ?_
  rintro v_ M_ ⟨eM_, ev_⟩
  rw [eM_, ev_]
  clear eM_ ev_ v_ M_
  show Wp 6 924 21 [some (.inr (.inr (9, 0))), some (.inl x1), some (.inl x2), some (.inl x3), some (.inl x4), none, none] [.inl (hsV (hcV (M1.1 5 0 11) x1 (M1.1 2 (phV (M1.1 5 0 11) x1) 11) x2) x3 (sofV (M1.1 2 (phV (M1.1 5 0 11) x1) 11) (M1.1 301 (phV (M1.1 5 0 11) x1)) x2))] M1 (rI Q)
  rcases Decidable.em (hsV (hcV (M1.1 5 0 11) x1 (M1.1 2 (phV (M1.1 5 0 11) x1) 11) x2) x3 (sofV (M1.1 2 (phV (M1.1 5 0 11) x1) 11) (M1.1 301 (phV (M1.1 5 0 11) x1)) x2) = 0) with c_1 | c_1
  · replace h := h.2 c_1
    refine Wp.path (k := 1) [0] (C := [hsV (hcV (M1.1 5 0 11) x1 (M1.1 2 (phV (M1.1 5 0 11) x1) 11) x2) x3 (sofV (M1.1 2 (phV (M1.1 5 0 11) x1) 11) (M1.1 301 (phV (M1.1 5 0 11) x1)) x2) = 0]) (pc' := 24) (ls' := [some (.inr (.inr (9, 0))), some (.inl x1), some (.inl x2), some (.inl x3), some (.inl x4), none, none]) (st' := []) (M' := M1) rfl c_1 ?_
    exact h.elim
  · replace h := h.1 c_1
    refine Wp.path (k := 1) [1] (C := [hsV (hcV (M1.1 5 0 11) x1 (M1.1 2 (phV (M1.1 5 0 11) x1) 11) x2) x3 (sofV (M1.1 2 (phV (M1.1 5 0 11) x1) 11) (M1.1 301 (phV (M1.1 5 0 11) x1)) x2) ≠ 0]) (pc' := 34) (ls' := [some (.inr (.inr (9, 0))), some (.inl x1), some (.inl x2), some (.inl x3), some (.inl x4), none, none]) (st' := []) (M' := M1) rfl c_1 ?_
    refine Wp.path (k := 1) [] (C := []) (pc' := 36) (ls' := [some (.inr (.inr (9, 0))), some (.inl x1), some (.inl x2), some (.inl x3), some (.inl x4), none, none]) (st' := [.inl x4]) (M' := M1) rfl trivial ?_
    rcases Decidable.em (x4 = 0) with c_2 | c_2
    · replace h := h.1 c_2
      refine Wp.path (k := 1) [1] (C := [x4 = 0]) (pc' := 55) (ls' := [some (.inr (.inr (9, 0))), some (.inl x1), some (.inl x2), some (.inl x3), some (.inl x4), none, none]) (st' := []) (M' := M1) rfl c_2 ?_
      refine Wp.path (k := 3) [] (C := []) (pc' := 60) (ls' := [some (.inr (.inr (9, 0))), some (.inl x1), some (.inl x2), some (.inl x3), some (.inl x4), none, none]) (st' := [.inl x1, .inr (.inr (5, 0))]) (M' := M1) rfl trivial ?_
      refine Wp.call (e503) rfl rfl (by decide) ?_
      rintro v_ M_ ⟨eM_, ev_⟩
      rw [eM_, ev_]
      clear eM_ ev_ v_ M_
      show Wp 6 924 63 [some (.inr (.inr (9, 0))), some (.inl x1), some (.inl x2), some (.inl x3), some (.inl x4), none, none] [.inr (.inr (3, (phV (M1.1 5 0 11) x1)))] M1 (rI Q)
      refine Wp.path (k := 5) [] (C := []) (pc' := 72) (ls' := [some (.inr (.inr (9, 0))), some (.inl x1), some (.inl x2), some (.inl x3), some (.inl x4), some (.inr (.inr (2, (phV (M1.1 5 0 11) x1)))), none]) (st' := [.inl x3, .inl x2, .inr (.inr (2, (phV (M1.1 5 0 11) x1)))]) (M' := M1) rfl trivial ?_
      refine Wp.call h rfl rfl (by decide) ?_
      rintro _ M1_1 ⟨r, rfl, h⟩
      show Wp 6 924 75 [some (.inr (.inr (9, 0))), some (.inl x1), some (.inl x2), some (.inl x3), some (.inl x4), some (.inr (.inr (2, (phV (M1.1 5 0 11) x1)))), none] [.inl r] M1_1 (rI Q)
      refine Wp.path (k := 2) [] (C := []) (pc' := 79) (ls' := [some (.inr (.inr (9, 0))), some (.inl x1), some (.inl x2), some (.inl x3), some (.inl x4), some (.inr (.inr (2, (phV (M1.1 5 0 11) x1)))), some (.inl r)]) (st' := [.inl x4]) (M' := M1_1) rfl trivial ?_
      rcases Decidable.em (x4 = 0) with c_3 | c_3
      · replace h := h.2 c_3
        refine Wp.path (k := 1) [0] (C := [x4 = 0]) (pc' := 82) (ls' := [some (.inr (.inr (9, 0))), some (.inl x1), some (.inl x2), some (.inl x3), some (.inl x4), some (.inr (.inr (2, (phV (M1.1 5 0 11) x1)))), some (.inl r)]) (st' := []) (M' := M1_1) rfl c_3 ?_
        refine Wp.path (k := 2) [] (C := []) (pc' := 86) (ls' := [some (.inr (.inr (9, 0))), some (.inl x1), some (.inl x2), some (.inl x3), some (.inl x4), some (.inr (.inr (2, (phV (M1.1 5 0 11) x1)))), some (.inl r)]) (st' := [.inl r, .inr (.inr (2, (phV (M1.1 5 0 11) x1)))]) (M' := M1_1) rfl trivial ?_
        refine Wp.call (e216) rfl rfl (by decide) ?_
        rintro v_ M_ ⟨eM_, ev_⟩
        rw [eM_, ev_]
        clear eM_ ev_ v_ M_
        show Wp 6 924 89 [some (.inr (.inr (9, 0))), some (.inl x1), some (.inl x2), some (.inl x3), some (.inl x4), some (.inr (.inr (2, (phV (M1.1 5 0 11) x1)))), some (.inl r)] [.inl (vxV (atN 340 (M1_1.1 305 (phV (M1.1 5 0 11) x1)) r) (atN 340 (M1_1.1 306 (phV (M1.1 5 0 11) x1)) r) (atN 340 (M1_1.1 307 (phV (M1.1 5 0 11) x1)) r) (atN 340 (M1_1.1 308 (phV (M1.1 5 0 11) x1)) r))] M1_1 (rI Q)
        refine Wp.path (k := 1) [] (C := []) (pc' := 99) (ls' := [some (.inr (.inr (9, 0))), some (.inl x1), some (.inl x2), some (.inl x3), some (.inl x4), some (.inr (.inr (2, (phV (M1.1 5 0 11) x1)))), some (.inl r)]) (st' := [.inl (vxV (atN 340 (M1_1.1 305 (phV (M1.1 5 0 11) x1)) r) (atN 340 (M1_1.1 306 (phV (M1.1 5 0 11) x1)) r) (atN 340 (M1_1.1 307 (phV (M1.1 5 0 11) x1)) r) (atN 340 (M1_1.1 308 (phV (M1.1 5 0 11) x1)) r))]) (M' := M1_1) rfl trivial ?_
        exact Wp.ret rfl ⟨_, rfl, h⟩
      · replace h := h.1 c_3
        refine Wp.path (k := 1) [1] (C := [x4 ≠ 0]) (pc' := 92) (ls' := [some (.inr (.inr (9, 0))), some (.inl x1), some (.inl x2), some (.inl x3), some (.inl x4), some (.inr (.inr (2, (phV (M1.1 5 0 11) x1)))), some (.inl r)]) (st' := []) (M' := M1_1) rfl c_3 ?_
        refine Wp.path (k := 2) [] (C := []) (pc' := 96) (ls' := [some (.inr (.inr (9, 0))), some (.inl x1), some (.inl x2), some (.inl x3), some (.inl x4), some (.inr (.inr (2, (phV (M1.1 5 0 11) x1)))), some (.inl r)]) (st' := [.inl r, .inr (.inr (2, (phV (M1.1 5 0 11) x1)))]) (M' := M1_1) rfl trivial ?_
        refine Wp.call (e217) rfl rfl (by decide) ?_
        rintro v_ M_ ⟨eM_, ev_⟩
        rw [eM_, ev_]
        clear eM_ ev_ v_ M_
        show Wp 6 924 99 [some (.inr (.inr (9, 0))), some (.inl x1), some (.inl x2), some (.inl x3), some (.inl x4), some (.inr (.inr (2, (phV (M1.1 5 0 11) x1)))), some (.inl r)] [.inl (vyV (atN 340 (M1_1.1 305 (phV (M1.1 5 0 11) x1)) r) (atN 340 (M1_1.1 306 (phV (M1.1 5 0 11) x1)) r) (atN 340 (M1_1.1 307 (phV (M1.1 5 0 11) x1)) r) (atN 340 (M1_1.1 308 (phV (M1.1 5 0 11) x1)) r))] M1_1 (rI Q)
        exact Wp.ret rfl ⟨_, rfl, h⟩
    · replace h := h.2 c_2
      refine Wp.path (k := 1) [0] (C := [x4 ≠ 0]) (pc' := 39) (ls' := [some (.inr (.inr (9, 0))), some (.inl x1), some (.inl x2), some (.inl x3), some (.inl x4), none, none]) (st' := []) (M' := M1) rfl c_2 ?_
      refine Wp.path (k := 2) [] (C := []) (pc' := 42) (ls' := [some (.inr (.inr (9, 0))), some (.inl x1), some (.inl x2), some (.inl x3), some (.inl x4), none, none]) (st' := [.inl 1, .inl x4]) (M' := M1) rfl trivial ?_
      rcases Decidable.em (x4 = 1) with c_4 | c_4
      · replace h := h.1 c_4
        refine Wp.path (k := 1) [1] (C := [x4 = 1]) (pc' := 55) (ls' := [some (.inr (.inr (9, 0))), some (.inl x1), some (.inl x2), some (.inl x3), some (.inl x4), none, none]) (st' := []) (M' := M1) rfl c_4 ?_
        refine Wp.path (k := 3) [] (C := []) (pc' := 60) (ls' := [some (.inr (.inr (9, 0))), some (.inl x1), some (.inl x2), some (.inl x3), some (.inl x4), none, none]) (st' := [.inl x1, .inr (.inr (5, 0))]) (M' := M1) rfl trivial ?_
        refine Wp.call (e503) rfl rfl (by decide) ?_
        rintro v_ M_ ⟨eM_, ev_⟩
        rw [eM_, ev_]
        clear eM_ ev_ v_ M_
        show Wp 6 924 63 [some (.inr (.inr (9, 0))), some (.inl x1), some (.inl x2), some (.inl x3), some (.inl x4), none, none] [.inr (.inr (3, (phV (M1.1 5 0 11) x1)))] M1 (rI Q)
        refine Wp.path (k := 5) [] (C := []) (pc' := 72) (ls' := [some (.inr (.inr (9, 0))), some (.inl x1), some (.inl x2), some (.inl x3), some (.inl x4), some (.inr (.inr (2, (phV (M1.1 5 0 11) x1)))), none]) (st' := [.inl x3, .inl x2, .inr (.inr (2, (phV (M1.1 5 0 11) x1)))]) (M' := M1) rfl trivial ?_
        refine Wp.call h rfl rfl (by decide) ?_
        rintro _ M1_2 ⟨r_1, rfl, h⟩
        show Wp 6 924 75 [some (.inr (.inr (9, 0))), some (.inl x1), some (.inl x2), some (.inl x3), some (.inl x4), some (.inr (.inr (2, (phV (M1.1 5 0 11) x1)))), none] [.inl r_1] M1_2 (rI Q)
        refine Wp.path (k := 2) [] (C := []) (pc' := 79) (ls' := [some (.inr (.inr (9, 0))), some (.inl x1), some (.inl x2), some (.inl x3), some (.inl x4), some (.inr (.inr (2, (phV (M1.1 5 0 11) x1)))), some (.inl r_1)]) (st' := [.inl x4]) (M' := M1_2) rfl trivial ?_
        rcases Decidable.em (x4 = 0) with c_5 | c_5
        · replace h := h.2 c_5
          refine Wp.path (k := 1) [0] (C := [x4 = 0]) (pc' := 82) (ls' := [some (.inr (.inr (9, 0))), some (.inl x1), some (.inl x2), some (.inl x3), some (.inl x4), some (.inr (.inr (2, (phV (M1.1 5 0 11) x1)))), some (.inl r_1)]) (st' := []) (M' := M1_2) rfl c_5 ?_
          refine Wp.path (k := 2) [] (C := []) (pc' := 86) (ls' := [some (.inr (.inr (9, 0))), some (.inl x1), some (.inl x2), some (.inl x3), some (.inl x4), some (.inr (.inr (2, (phV (M1.1 5 0 11) x1)))), some (.inl r_1)]) (st' := [.inl r_1, .inr (.inr (2, (phV (M1.1 5 0 11) x1)))]) (M' := M1_2) rfl trivial ?_
          refine Wp.call (e216) rfl rfl (by decide) ?_
          rintro v_ M_ ⟨eM_, ev_⟩
          rw [eM_, ev_]
          clear eM_ ev_ v_ M_
          show Wp 6 924 89 [some (.inr (.inr (9, 0))), some (.inl x1), some (.inl x2), some (.inl x3), some (.inl x4), some (.inr (.inr (2, (phV (M1.1 5 0 11) x1)))), some (.inl r_1)] [.inl (vxV (atN 340 (M1_2.1 305 (phV (M1.1 5 0 11) x1)) r_1) (atN 340 (M1_2.1 306 (phV (M1.1 5 0 11) x1)) r_1) (atN 340 (M1_2.1 307 (phV (M1.1 5 0 11) x1)) r_1) (atN 340 (M1_2.1 308 (phV (M1.1 5 0 11) x1)) r_1))] M1_2 (rI Q)
          refine Wp.path (k := 1) [] (C := []) (pc' := 99) (ls' := [some (.inr (.inr (9, 0))), some (.inl x1), some (.inl x2), some (.inl x3), some (.inl x4), some (.inr (.inr (2, (phV (M1.1 5 0 11) x1)))), some (.inl r_1)]) (st' := [.inl (vxV (atN 340 (M1_2.1 305 (phV (M1.1 5 0 11) x1)) r_1) (atN 340 (M1_2.1 306 (phV (M1.1 5 0 11) x1)) r_1) (atN 340 (M1_2.1 307 (phV (M1.1 5 0 11) x1)) r_1) (atN 340 (M1_2.1 308 (phV (M1.1 5 0 11) x1)) r_1))]) (M' := M1_2) rfl trivial ?_
          exact Wp.ret rfl ⟨_, rfl, h⟩
        · replace h := h.1 c_5
          refine Wp.path (k := 1) [1] (C := [x4 ≠ 0]) (pc' := 92) (ls' := [some (.inr (.inr (9, 0))), some (.inl x1), some (.inl x2), some (.inl x3), some (.inl x4), some (.inr (.inr (2, (phV (M1.1 5 0 11) x1)))), some (.inl r_1)]) (st' := []) (M' := M1_2) rfl c_5 ?_
          refine Wp.path (k := 2) [] (C := []) (pc' := 96) (ls' := [some (.inr (.inr (9, 0))), some (.inl x1), some (.inl x2), some (.inl x3), some (.inl x4), some (.inr (.inr (2, (phV (M1.1 5 0 11) x1)))), some (.inl r_1)]) (st' := [.inl r_1, .inr (.inr (2, (phV (M1.1 5 0 11) x1)))]) (M' := M1_2) rfl trivial ?_
          refine Wp.call (e217) rfl rfl (by decide) ?_
          rintro v_ M_ ⟨eM_, ev_⟩
          rw [eM_, ev_]
          clear eM_ ev_ v_ M_
          show Wp 6 924 99 [some (.inr (.inr (9, 0))), some (.inl x1), some (.inl x2), some (.inl x3), some (.inl x4), some (.inr (.inr (2, (phV (M1.1 5 0 11) x1)))), some (.inl r_1)] [.inl (vyV (atN 340 (M1_2.1 305 (phV (M1.1 5 0 11) x1)) r_1) (atN 340 (M1_2.1 306 (phV (M1.1 5 0 11) x1)) r_1) (atN 340 (M1_2.1 307 (phV (M1.1 5 0 11) x1)) r_1) (atN 340 (M1_2.1 308 (phV (M1.1 5 0 11) x1)) r_1))] M1_2 (rI Q)
          exact Wp.ret rfl ⟨_, rfl, h⟩
      · replace h := h.2 c_4
        refine Wp.path (k := 1) [0] (C := [x4 ≠ 1]) (pc' := 45) (ls' := [some (.inr (.inr (9, 0))), some (.inl x1), some (.inl x2), some (.inl x3), some (.inl x4), none, none]) (st' := []) (M' := M1) rfl c_4 ?_
        exact h.elim
/-- X9_events -/
def E_927 (M : Mm) (Q : Int → Mm → Prop) : Prop := Ev 6 927 [.inr (.inr (9, 0))] M (rI Q)
theorem m_927 {M : Mm} {Q Q1 : Int → Mm → Prop} (h : E_927 M Q) (k : (∀ r M1, Q r M1 → Q1 r M1)) : E_927 M Q1 := Ev.mono h (fun v M1 ⟨r, h1, h2⟩ => ⟨r, h1, k _ _ h2⟩)
theorem s_927_0 {M : Mm} {Q : Int → Mm → Prop} (h : (E_502 0 M (fun M1 : Mm => (E_527 M1 (fun (r : Int) (M1_1 : Mm) => (Q r M1_1)))))) : E_927 M Q := by
  show Wp 6 927 0 [some (.inr (.inr (9, 0)))] [] M (rI Q)
  refine Wp.path (k := 4) [] (C := []) (pc' := 8) (ls' := [some (.inr (.inr (9, 0)))]) (st' := [.inr (.inr (4, 0)), .inr (.inr (5, 0))]) (M' := M) rfl trivial ?_
  refine Wp.call h rfl rfl (by decide) ?_
  rintro _ M1 ⟨rfl, h⟩
  show Wp 6 927 11 [some (.inr (.inr (9, 0)))] [] M1 (rI Q)
  refine Wp.path (k := 2) [] (C := []) (pc' := 15) (ls' := [some (.inr (.inr (9, 0)))]) (st' := [.inr (.inr (5, 0))]) (M' := M1) rfl trivial ?_
  refine Wp.call h rfl rfl (by decide) ?_
  rintro _ M1_1 ⟨r, rfl, h⟩
  show Wp 6 927 18 [some (.inr (.inr (9, 0)))] [.inl r] M1_1 (rI Q)
  exact Wp.ret rfl ⟨_, rfl, h⟩
/-- X9_branches -/
def E_929 (M : Mm) (Q : Int → Mm → Prop) : Prop := Ev 6 929 [.inr (.inr (9, 0))] M (rI Q)
theorem m_929 {M : Mm} {Q Q1 : Int → Mm → Prop} (h : E_929 M Q) (k : (∀ r M1, Q r M1 → Q1 r M1)) : E_929 M Q1 := Ev.mono h (fun v M1 ⟨r, h1, h2⟩ => ⟨r, h1, k _ _ h2⟩)
theorem s_929_0 {M : Mm} {Q : Int → Mm → Prop} (h : (E_502 0 M (fun M1 : Mm => (Q (M1.1 7 0 10) M1)))) : E_929 M Q := by
  show Wp 6 929 0 [some (.inr (.inr (9, 0)))] [] M (rI Q)
  refine Wp.path (k := 4) [] (C := []) (pc' := 8) (ls' := [some (.inr (.inr (9, 0)))]) (st' := [.inr (.inr (4, 0)), .inr (.inr (5, 0))]) (M' := M) rfl trivial ?_
  refine Wp.call h rfl rfl (by decide) ?_
  rintro _ M1 ⟨rfl, h⟩
  show Wp 6 929 11 [some (.inr (.inr (9, 0)))] [] M1 (rI Q)
  refine Wp.path (k := 4) [] (C := []) (pc' := 21) (ls' := [some (.inr (.inr (9, 0)))]) (st' := [.inl (M1.1 7 0 10)]) (M' := M1) rfl trivial ?_
  exact Wp.ret rfl ⟨_, rfl, h⟩
/-- X9_count -/
def E_933 (x1 : Int) (M : Mm) (Q : Int → Mm → Prop) : Prop := Ev 2 933 [.inr (.inr (9, 0)), .inl x1] M (rI Q)
theorem m_933 {x1 : Int} {M : Mm} {Q Q1 : Int → Mm → Prop} (h : E_933 x1 M Q) (k : (∀ r M1, Q r M1 → Q1 r M1)) : E_933 x1 M Q1 := Ev.mono h (fun v M1 ⟨r, h1, h2⟩ => ⟨r, h1, k _ _ h2⟩)
theorem s_933_0 {x1 : Int} {M : Mm} {Q : Int → Mm → Prop} (h : ((x1 = 0 → (E_402 0 M (fun (r : Int) (M1 : Mm) => (Q r M1)))) ∧ (x1 = 1 → (Q (M.1 1 0 2) M)) ∧ (x1 = 2 → (Q (M.1 1 0 3) M)) ∧ (x1 = 3 → (Q (M.1 6 0 3) M)) ∧ (x1 ≠ 0 ∧ x1 ≠ 1 ∧ x1 ≠ 2 ∧ x1 ≠ 3 → False))) : E_933 x1 M Q := by
  show Wp 2 933 0 [some (.inr (.inr (9, 0))), some (.inl x1)] [] M (rI Q)
  refine Wp.path (k := 1) [] (C := []) (pc' := 1) (ls' := [some (.inr (.inr (9, 0))), some (.inl x1)]) (st' := [.inl x1]) (M' := M) rfl trivial ?_
  rcases Decidable.em (x1 = 0) with c_1 | c_1
  · replace h := h.1 c_1
    refine Wp.path (k := 1) [32] (C := [tswT 1 63 0 3 #[31, 39, 47, 55] x1 = 32]) (pc' := 32) (ls' := [some (.inr (.inr (9, 0))), some (.inl x1)]) (st' := []) (M' := M) rfl (by rw [c_1]; rfl) ?_
    refine Wp.path (k := 2) [] (C := []) (pc' := 36) (ls' := [some (.inr (.inr (9, 0))), some (.inl x1)]) (st' := [.inr (.inr (4, 0))]) (M' := M) rfl trivial ?_
    refine Wp.call h rfl rfl (by decide) ?_
    rintro _ M1 ⟨r, rfl, h⟩
    show Wp 2 933 39 [some (.inr (.inr (9, 0))), some (.inl x1)] [.inl r] M1 (rI Q)
    exact Wp.ret rfl ⟨_, rfl, h⟩
  replace h := h.2
  rcases Decidable.em (x1 = 1) with c_2 | c_2
  · replace h := h.1 c_2
    refine Wp.path (k := 1) [40] (C := [tswT 1 63 0 3 #[31, 39, 47, 55] x1 = 40]) (pc' := 40) (ls' := [some (.inr (.inr (9, 0))), some (.inl x1)]) (st' := []) (M' := M) rfl (by rw [c_2]; rfl) ?_
    refine Wp.path (k := 3) [] (C := []) (pc' := 47) (ls' := [some (.inr (.inr (9, 0))), some (.inl x1)]) (st' := [.inl (M.1 1 0 2)]) (M' := M) rfl trivial ?_
    exact Wp.ret rfl ⟨_, rfl, h⟩
  replace h := h.2
  rcases Decidable.em (x1 = 2) with c_3 | c_3
  · replace h := h.1 c_3
    refine Wp.path (k := 1) [48] (C := [tswT 1 63 0 3 #[31, 39, 47, 55] x1 = 48]) (pc' := 48) (ls' := [some (.inr (.inr (9, 0))), some (.inl x1)]) (st' := []) (M' := M) rfl (by rw [c_3]; rfl) ?_
    refine Wp.path (k := 3) [] (C := []) (pc' := 55) (ls' := [some (.inr (.inr (9, 0))), some (.inl x1)]) (st' := [.inl (M.1 1 0 3)]) (M' := M) rfl trivial ?_
    exact Wp.ret rfl ⟨_, rfl, h⟩
  replace h := h.2
  rcases Decidable.em (x1 = 3) with c_4 | c_4
  · replace h := h.1 c_4
    refine Wp.path (k := 1) [56] (C := [tswT 1 63 0 3 #[31, 39, 47, 55] x1 = 56]) (pc' := 56) (ls' := [some (.inr (.inr (9, 0))), some (.inl x1)]) (st' := []) (M' := M) rfl (by rw [c_4]; rfl) ?_
    refine Wp.path (k := 3) [] (C := []) (pc' := 63) (ls' := [some (.inr (.inr (9, 0))), some (.inl x1)]) (st' := [.inl (M.1 6 0 3)]) (M' := M) rfl trivial ?_
    exact Wp.ret rfl ⟨_, rfl, h⟩
  replace h := h.2
  replace h := h ⟨c_1, c_2, c_3, c_4⟩
  refine Wp.path (k := 1) [64] (C := [tswT 1 63 0 3 #[31, 39, 47, 55] x1 = 64]) (pc' := 64) (ls' := [some (.inr (.inr (9, 0))), some (.inl x1)]) (st' := []) (M' := M) rfl ((tsw_d (by omega)).trans rfl) ?_
  exact h.elim

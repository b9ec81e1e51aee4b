/-! printed contracts: three small methods, with their values -/
/-- X2_cellsAround -/
def E_207 (i0 : Nat) (x1 : Int) (x2 : Int) (M : Mm) (Q : Int → Mm → Prop) : Prop := Ev 1 207 [.inr (.inr (3, i0)), .inl x1, .inl x2] M (rI Q)
theorem m_207 {i0 : Nat} {x1 : Int} {x2 : Int} {M : Mm} {Q Q1 : Int → Mm → Prop} (h : E_207 i0 x1 x2 M Q) (k : (∀ r M1, Q r M1 → Q1 r M1)) : E_207 i0 x1 x2 M Q1 := Ev.mono h (fun v M1 ⟨r, h1, h2⟩ => ⟨r, h1, k _ _ h2⟩)
theorem s_207_0 {i0 : Nat} {x1 : Int} {x2 : Int} {M : Mm} {Q : Int → Mm → Prop} (h : ((-2147483648 ≤ x1 - 1 ∧ x1 - 1 ≤ 2147483647) ∧ (-2147483648 ≤ x2 - 1 ∧ x2 - 1 ≤ 2147483647)) ∧ (∀ b : Int, b = (if covV (M.2 401 i0) (x1 - 1) (x2 - 1) = 0 then 0 else 1) → (((-2147483648 ≤ x2 - 1 ∧ x2 - 1 ≤ 2147483647)) ∧ (∀ b_1 : Int, b_1 = (if covV (M.2 401 i0) x1 (x2 - 1) = 0 then 0 else 1) → (((-2147483648 ≤ b + b_1 ∧ b + b_1 ≤ 2147483647) ∧ (-2147483648 ≤ x1 - 1 ∧ x1 - 1 ≤ 2147483647)) ∧ (∀ b_2 : Int, b_2 = (if covV (M.2 401 i0) (x1 - 1) x2 = 0 then 0 else 1) → (((-2147483648 ≤ (b + b_1) + b_2 ∧ (b + b_1) + b_2 ≤ 2147483647)) ∧ (∀ b_3 : Int, b_3 = (if covV (M.2 401 i0) x1 x2 = 0 then 0 else 1) → (((-2147483648 ≤ ((b + b_1) + b_2) + b_3 ∧ ((b + b_1) + b_2) + b_3 ≤ 2147483647)) ∧ (Q (((b + b_1) + b_2) + b_3) M)))))))))) : E_207 i0 x1 x2 M Q := by
  show Wp 1 207 0 [some (.inr (.inr (3, i0))), some (.inl x1), some (.inl x2)] [] M (rI Q)
  refine Wp.path (k := 7) [] (C := [inR (x1 - 1), inR (x2 - 1)]) (pc' := 7) (ls' := [some (.inr (.inr (3, i0))), some (.inl x1), some (.inl x2)]) (st' := [.inl (x2 - 1), .inl (x1 - 1), .inr (.inr (3, i0))]) (M' := M) rfl ⟨h.1.1, h.1.2⟩ ?_
  replace h := h.2
  refine Wp.call (e301) rfl rfl (by decide) ?_
  rintro v_ M_ ⟨eM_, ev_⟩
  rw [eM_, ev_]
  clear eM_ ev_ v_ M_
  show Wp 1 207 10 [some (.inr (.inr (3, i0))), some (.inl x1), some (.inl x2)] [.inl (covV (M.2 401 i0) (x1 - 1) (x2 - 1))] M (rI Q)
  have k_7 : ∀ b : Int, b = (if covV (M.2 401 i0) (x1 - 1) (x2 - 1) = 0 then 0 else 1) → Wp 1 207 18 [some (.inr (.inr (3, i0))), some (.inl x1), some (.inl x2)] [.inl b] M (rI Q) := by
    intro b e_b
    replace h := h b e_b
    refine Wp.path (k := 5) [] (C := [inR (x2 - 1)]) (pc' := 23) (ls' := [some (.inr (.inr (3, i0))), some (.inl x1), some (.inl x2)]) (st' := [.inl (x2 - 1), .inl x1, .inr (.inr (3, i0)), .inl b]) (M' := M) rfl h.1 ?_
    replace h := h.2
    refine Wp.call (e301) rfl rfl (by decide) ?_
    rintro v_ M_ ⟨eM_, ev_⟩
    rw [eM_, ev_]
    clear eM_ ev_ v_ M_
    show Wp 1 207 26 [some (.inr (.inr (3, i0))), some (.inl x1), some (.inl x2)] [.inl (covV (M.2 401 i0) x1 (x2 - 1)), .inl b] M (rI Q)
    have k_5 : ∀ b_1 : Int, b_1 = (if covV (M.2 401 i0) x1 (x2 - 1) = 0 then 0 else 1) → Wp 1 207 34 [some (.inr (.inr (3, i0))), some (.inl x1), some (.inl x2)] [.inl b_1, .inl b] M (rI Q) := by
      intro b_1 e_b_1
      replace h := h b_1 e_b_1
      refine Wp.path (k := 6) [] (C := [inR (b + b_1), inR (x1 - 1)]) (pc' := 40) (ls' := [some (.inr (.inr (3, i0))), some (.inl x1), some (.inl x2)]) (st' := [.inl x2, .inl (x1 - 1), .inr (.inr (3, i0)), .inl (b + b_1)]) (M' := M) rfl ⟨h.1.1, h.1.2⟩ ?_
      replace h := h.2
      refine Wp.call (e301) rfl rfl (by decide) ?_
      rintro v_ M_ ⟨eM_, ev_⟩
      rw [eM_, ev_]
      clear eM_ ev_ v_ M_
      show Wp 1 207 43 [some (.inr (.inr (3, i0))), some (.inl x1), some (.inl x2)] [.inl (covV (M.2 401 i0) (x1 - 1) x2), .inl (b + b_1)] M (rI Q)
      have k_3 : ∀ b_2 : Int, b_2 = (if covV (M.2 401 i0) (x1 - 1) x2 = 0 then 0 else 1) → Wp 1 207 51 [some (.inr (.inr (3, i0))), some (.inl x1), some (.inl x2)] [.inl b_2, .inl (b + b_1)] M (rI Q) := by
        intro b_2 e_b_2
        replace h := h b_2 e_b_2
        refine Wp.path (k := 4) [] (C := [inR ((b + b_1) + b_2)]) (pc' := 55) (ls' := [some (.inr (.inr (3, i0))), some (.inl x1), some (.inl x2)]) (st' := [.inl x2, .inl x1, .inr (.inr (3, i0)), .inl ((b + b_1) + b_2)]) (M' := M) rfl h.1 ?_
        replace h := h.2
        refine Wp.call (e301) rfl rfl (by decide) ?_
        rintro v_ M_ ⟨eM_, ev_⟩
        rw [eM_, ev_]
        clear eM_ ev_ v_ M_
        show Wp 1 207 58 [some (.inr (.inr (3, i0))), some (.inl x1), some (.inl x2)] [.inl (covV (M.2 401 i0) x1 x2), .inl ((b + b_1) + b_2)] M (rI Q)
        have k_1 : ∀ b_3 : Int, b_3 = (if covV (M.2 401 i0) x1 x2 = 0 then 0 else 1) → Wp 1 207 66 [some (.inr (.inr (3, i0))), some (.inl x1), some (.inl x2)] [.inl b_3, .inl ((b + b_1) + b_2)] M (rI Q) := by
          intro b_3 e_b_3
          replace h := h b_3 e_b_3
          refine Wp.path (k := 1) [] (C := [inR (((b + b_1) + b_2) + b_3)]) (pc' := 67) (ls' := [some (.inr (.inr (3, i0))), some (.inl x1), some (.inl x2)]) (st' := [.inl (((b + b_1) + b_2) + b_3)]) (M' := M) rfl h.1 ?_
          replace h := h.2
          exact Wp.ret rfl ⟨_, rfl, h⟩
        clear h
        rcases Decidable.em (covV (M.2 401 i0) x1 x2 = 0) with c_2 | c_2
        · refine Wp.path (k := 1) [1] (C := [covV (M.2 401 i0) x1 x2 = 0]) (pc' := 65) (ls' := [some (.inr (.inr (3, i0))), some (.inl x1), some (.inl x2)]) (st' := [.inl ((b + b_1) + b_2)]) (M' := M) rfl c_2 ?_
          refine Wp.path (k := 1) [] (C := []) (pc' := 66) (ls' := [some (.inr (.inr (3, i0))), some (.inl x1), some (.inl x2)]) (st' := [.inl 0, .inl ((b + b_1) + b_2)]) (M' := M) rfl trivial ?_
          exact k_1 _ (by rw [if_pos c_2])
        · refine Wp.path (k := 1) [0] (C := [covV (M.2 401 i0) x1 x2 ≠ 0]) (pc' := 61) (ls' := [some (.inr (.inr (3, i0))), some (.inl x1), some (.inl x2)]) (st' := [.inl ((b + b_1) + b_2)]) (M' := M) rfl c_2 ?_
          refine Wp.path (k := 2) [] (C := []) (pc' := 66) (ls' := [some (.inr (.inr (3, i0))), some (.inl x1), some (.inl x2)]) (st' := [.inl 1, .inl ((b + b_1) + b_2)]) (M' := M) rfl trivial ?_
          exact k_1 _ (by rw [if_neg c_2])
      clear h
      rcases Decidable.em (covV (M.2 401 i0) (x1 - 1) x2 = 0) with c_4 | c_4
      · refine Wp.path (k := 1) [1] (C := [covV (M.2 401 i0) (x1 - 1) x2 = 0]) (pc' := 50) (ls' := [some (.inr (.inr (3, i0))), some (.inl x1), some (.inl x2)]) (st' := [.inl (b + b_1)]) (M' := M) rfl c_4 ?_
        refine Wp.path (k := 1) [] (C := []) (pc' := 51) (ls' := [some (.inr (.inr (3, i0))), some (.inl x1), some (.inl x2)]) (st' := [.inl 0, .inl (b + b_1)]) (M' := M) rfl trivial ?_
        exact k_3 _ (by rw [if_pos c_4])
      · refine Wp.path (k := 1) [0] (C := [covV (M.2 401 i0) (x1 - 1) x2 ≠ 0]) (pc' := 46) (ls' := [some (.inr (.inr (3, i0))), some (.inl x1), some (.inl x2)]) (st' := [.inl (b + b_1)]) (M' := M) rfl c_4 ?_
        refine Wp.path (k := 2) [] (C := []) (pc' := 51) (ls' := [some (.inr (.inr (3, i0))), some (.inl x1), some (.inl x2)]) (st' := [.inl 1, .inl (b + b_1)]) (M' := M) rfl trivial ?_
        exact k_3 _ (by rw [if_neg c_4])
    clear h
    rcases Decidable.em (covV (M.2 401 i0) x1 (x2 - 1) = 0) with c_6 | c_6
    · refine Wp.path (k := 1) [1] (C := [covV (M.2 401 i0) x1 (x2 - 1) = 0]) (pc' := 33) (ls' := [some (.inr (.inr (3, i0))), some (.inl x1), some (.inl x2)]) (st' := [.inl b]) (M' := M) rfl c_6 ?_
      refine Wp.path (k := 1) [] (C := []) (pc' := 34) (ls' := [some (.inr (.inr (3, i0))), some (.inl x1), some (.inl x2)]) (st' := [.inl 0, .inl b]) (M' := M) rfl trivial ?_
      exact k_5 _ (by rw [if_pos c_6])
    · refine Wp.path (k := 1) [0] (C := [covV (M.2 401 i0) x1 (x2 - 1) ≠ 0]) (pc' := 29) (ls' := [some (.inr (.inr (3, i0))), some (.inl x1), some (.inl x2)]) (st' := [.inl b]) (M' := M) rfl c_6 ?_
      refine Wp.path (k := 2) [] (C := []) (pc' := 34) (ls' := [some (.inr (.inr (3, i0))), some (.inl x1), some (.inl x2)]) (st' := [.inl 1, .inl b]) (M' := M) rfl trivial ?_
      exact k_5 _ (by rw [if_neg c_6])
  clear h
  rcases Decidable.em (covV (M.2 401 i0) (x1 - 1) (x2 - 1) = 0) with c_8 | c_8
  · refine Wp.path (k := 1) [1] (C := [covV (M.2 401 i0) (x1 - 1) (x2 - 1) = 0]) (pc' := 17) (ls' := [some (.inr (.inr (3, i0))), some (.inl x1), some (.inl x2)]) (st' := []) (M' := M) rfl c_8 ?_
    refine Wp.path (k := 1) [] (C := []) (pc' := 18) (ls' := [some (.inr (.inr (3, i0))), some (.inl x1), some (.inl x2)]) (st' := [.inl 0]) (M' := M) rfl trivial ?_
    exact k_7 _ (by rw [if_pos c_8])
  · refine Wp.path (k := 1) [0] (C := [covV (M.2 401 i0) (x1 - 1) (x2 - 1) ≠ 0]) (pc' := 13) (ls' := [some (.inr (.inr (3, i0))), some (.inl x1), some (.inl x2)]) (st' := []) (M' := M) rfl c_8 ?_
    refine Wp.path (k := 2) [] (C := []) (pc' := 18) (ls' := [some (.inr (.inr (3, i0))), some (.inl x1), some (.inl x2)]) (st' := [.inl 1]) (M' := M) rfl trivial ?_
    exact k_7 _ (by rw [if_neg c_8])
/-- X10_leaves -/
def E_1032 (x1 : Int) (x2 : Int) (x3 : Int) (M : Mm) (Q : Int → Mm → Prop) : Prop := Ev 3 1032 [.inr (.inr (10, 0)), .inl x1, .inl x2, .inl x3] M (rI Q)
theorem m_1032 {x1 : Int} {x2 : Int} {x3 : Int} {M : Mm} {Q Q1 : Int → Mm → Prop} (h : E_1032 x1 x2 x3 M Q) (k : (∀ r M1, Q r M1 → Q1 r M1)) : E_1032 x1 x2 x3 M Q1 := Ev.mono h (fun v M1 ⟨r, h1, h2⟩ => ⟨r, h1, k _ _ h2⟩)
theorem s_1032_0 {x1 : Int} {x2 : Int} {x3 : Int} {M : Mm} {Q : Int → Mm → Prop} (h : ((-2147483648 ≤ x2 - 1 ∧ x2 - 1 ≤ 2147483647) ∧ (-2147483648 ≤ x3 - 1 ∧ x3 - 1 ≤ 2147483647)) ∧ ((0 ≤ x1 ∧ x1 < 12) ∧ (∀ x4 : Int, x4 = isV (M.2 1116 0) x1 (x2 - 1) (x3 - 1) → (((-2147483648 ≤ x3 - 1 ∧ x3 - 1 ≤ 2147483647)) ∧ ((0 ≤ x1 ∧ x1 < 12) ∧ (∀ x5 : Int, x5 = isV (M.2 1116 0) x1 x2 (x3 - 1) → (((-2147483648 ≤ x2 - 1 ∧ x2 - 1 ≤ 2147483647)) ∧ ((0 ≤ x1 ∧ x1 < 12) ∧ (∀ x6 : Int, x6 = isV (M.2 1116 0) x1 (x2 - 1) x3 → ((0 ≤ x1 ∧ x1 < 12) ∧ (∀ x7 : Int, x7 = isV (M.2 1116 0) x1 x2 x3 → (∀ b : Int, b = (if x7 = 0 then (if x6 = 0 then (if x4 = 0 then (if x5 = 0 then (-1) else (if x4 ≠ 0 then (-1) else 3)) else (if x6 ≠ 0 then (if x5 = 0 then (-1) else (if x4 ≠ 0 then (-1) else 3)) else 2)) else (if x7 ≠ 0 then (if x4 = 0 then (if x5 = 0 then (-1) else (if x4 ≠ 0 then (-1) else 3)) else (if x6 ≠ 0 then (if x5 = 0 then (-1) else (if x4 ≠ 0 then (-1) else 3)) else 2)) else 1)) else (if x5 ≠ 0 then (if x6 = 0 then (if x4 = 0 then (if x5 = 0 then (-1) else (if x4 ≠ 0 then (-1) else 3)) else (if x6 ≠ 0 then (if x5 = 0 then (-1) else (if x4 ≠ 0 then (-1) else 3)) else 2)) else (if x7 ≠ 0 then (if x4 = 0 then (if x5 = 0 then (-1) else (if x4 ≠ 0 then (-1) else 3)) else (if x6 ≠ 0 then (if x5 = 0 then (-1) else (if x4 ≠ 0 then (-1) else 3)) else 2)) else 1)) else 0)) → (Q b M))))))))))))) : E_1032 x1 x2 x3 M Q := by
  show Wp 3 1032 0 [some (.inr (.inr (10, 0))), some (.inl x1), some (.inl x2), some (.inl x3), none, none, none, none] [] M (rI Q)
  refine Wp.path (k := 8) [] (C := [inR (x2 - 1), inR (x3 - 1)]) (pc' := 8) (ls' := [some (.inr (.inr (10, 0))), some (.inl x1), some (.inl x2), some (.inl x3), none, none, none, none]) (st' := [.inl (x3 - 1), .inl (x2 - 1), .inl x1, .inr (.inr (10, 0))]) (M' := M) rfl ⟨h.1.1, h.1.2⟩ ?_
  replace h := h.2
  refine Wp.call (e1026 h.1.1 h.1.2) rfl rfl (by decide) ?_
  replace h := h.2
  rintro v_ M_ ⟨eM_, ev_⟩
  rw [eM_, ev_]
  clear eM_ ev_ v_ M_
  show Wp 3 1032 11 [some (.inr (.inr (10, 0))), some (.inl x1), some (.inl x2), some (.inl x3), none, none, none, none] [.inl (isV (M.2 1116 0) x1 (x2 - 1) (x3 - 1))] M (rI Q)
  refine Wp.path (k := 1) [] (C := []) (pc' := 13) (ls' := [some (.inr (.inr (10, 0))), some (.inl x1), some (.inl x2), some (.inl x3), some (.inl (isV (M.2 1116 0) x1 (x2 - 1) (x3 - 1))), none, none, none]) (st' := []) (M' := M) rfl trivial ?_
  refine Bd (P := fun x4 : Int => Wp 3 1032 13 [some (.inr (.inr (10, 0))), some (.inl x1), some (.inl x2), some (.inl x3), some (.inl x4), none, none, none] [] M (rI Q)) ?_
  intro x4 e_x4
  replace h := h x4 e_x4
  refine Wp.path (k := 6) [] (C := [inR (x3 - 1)]) (pc' := 19) (ls' := [some (.inr (.inr (10, 0))), some (.inl x1), some (.inl x2), some (.inl x3), some (.inl x4), none, none, none]) (st' := [.inl (x3 - 1), .inl x2, .inl x1, .inr (.inr (10, 0))]) (M' := M) rfl h.1 ?_
  replace h := h.2
  refine Wp.call (e1026 h.1.1 h.1.2) rfl rfl (by decide) ?_
  replace h := h.2
  rintro v_ M_ ⟨eM_, ev_⟩
  rw [eM_, ev_]
  clear eM_ ev_ v_ M_
  show Wp 3 1032 22 [some (.inr (.inr (10, 0))), some (.inl x1), some (.inl x2), some (.inl x3), some (.inl x4), none, none, none] [.inl (isV (M.2 1116 0) x1 x2 (x3 - 1))] M (rI Q)
  refine Wp.path (k := 1) [] (C := []) (pc' := 24) (ls' := [some (.inr (.inr (10, 0))), some (.inl x1), some (.inl x2), some (.inl x3), some (.inl x4), some (.inl (isV (M.2 1116 0) x1 x2 (x3 - 1))), none, none]) (st' := []) (M' := M) rfl trivial ?_
  refine Bd (P := fun x5 : Int => Wp 3 1032 24 [some (.inr (.inr (10, 0))), some (.inl x1), some (.inl x2), some (.inl x3), some (.inl x4), some (.inl x5), none, none] [] M (rI Q)) ?_
  intro x5 e_x5
  replace h := h x5 e_x5
  refine Wp.path (k := 6) [] (C := [inR (x2 - 1)]) (pc' := 30) (ls' := [some (.inr (.inr (10, 0))), some (.inl x1), some (.inl x2), some (.inl x3), some (.inl x4), some (.inl x5), none, none]) (st' := [.inl x3, .inl (x2 - 1), .inl x1, .inr (.inr (10, 0))]) (M' := M) rfl h.1 ?_
  replace h := h.2
  refine Wp.call (e1026 h.1.1 h.1.2) rfl rfl (by decide) ?_
  replace h := h.2
  rintro v_ M_ ⟨eM_, ev_⟩
  rw [eM_, ev_]
  clear eM_ ev_ v_ M_
  show Wp 3 1032 33 [some (.inr (.inr (10, 0))), some (.inl x1), some (.inl x2), some (.inl x3), some (.inl x4), some (.inl x5), none, none] [.inl (isV (M.2 1116 0) x1 (x2 - 1) x3)] M (rI Q)
  refine Wp.path (k := 1) [] (C := []) (pc' := 35) (ls' := [some (.inr (.inr (10, 0))), some (.inl x1), some (.inl x2), some (.inl x3), some (.inl x4), some (.inl x5), some (.inl (isV (M.2 1116 0) x1 (x2 - 1) x3)), none]) (st' := []) (M' := M) rfl trivial ?_
  refine Bd (P := fun x6 : Int => Wp 3 1032 35 [some (.inr (.inr (10, 0))), some (.inl x1), some (.inl x2), some (.inl x3), some (.inl x4), some (.inl x5), some (.inl x6), none] [] M (rI Q)) ?_
  intro x6 e_x6
  replace h := h x6 e_x6
  refine Wp.path (k := 4) [] (C := []) (pc' := 39) (ls' := [some (.inr (.inr (10, 0))), some (.inl x1), some (.inl x2), some (.inl x3), some (.inl x4), some (.inl x5), some (.inl x6), none]) (st' := [.inl x3, .inl x2, .inl x1, .inr (.inr (10, 0))]) (M' := M) rfl trivial ?_
  refine Wp.call (e1026 h.1.1 h.1.2) rfl rfl (by decide) ?_
  replace h := h.2
  rintro v_ M_ ⟨eM_, ev_⟩
  rw [eM_, ev_]
  clear eM_ ev_ v_ M_
  show Wp 3 1032 42 [some (.inr (.inr (10, 0))), some (.inl x1), some (.inl x2), some (.inl x3), some (.inl x4), some (.inl x5), some (.inl x6), none] [.inl (isV (M.2 1116 0) x1 x2 x3)] M (rI Q)
  refine Wp.path (k := 1) [] (C := []) (pc' := 44) (ls' := [some (.inr (.inr (10, 0))), some (.inl x1), some (.inl x2), some (.inl x3), some (.inl x4), some (.inl x5), some (.inl x6), some (.inl (isV (M.2 1116 0) x1 x2 x3))]) (st' := []) (M' := M) rfl trivial ?_
  refine Bd (P := fun x7 : Int => Wp 3 1032 44 [some (.inr (.inr (10, 0))), some (.inl x1), some (.inl x2), some (.inl x3), some (.inl x4), some (.inl x5), some (.inl x6), some (.inl x7)] [] M (rI Q)) ?_
  intro x7 e_x7
  replace h := h x7 e_x7
  refine Wp.path (k := 1) [] (C := []) (pc' := 46) (ls' := [some (.inr (.inr (10, 0))), some (.inl x1), some (.inl x2), some (.inl x3), some (.inl x4), some (.inl x5), some (.inl x6), some (.inl x7)]) (st' := [.inl x7]) (M' := M) rfl trivial ?_
  have k_1 : ∀ b : Int, b = (if x7 = 0 then (if x6 = 0 then (if x4 = 0 then (if x5 = 0 then (-1) else (if x4 ≠ 0 then (-1) else 3)) else (if x6 ≠ 0 then (if x5 = 0 then (-1) else (if x4 ≠ 0 then (-1) else 3)) else 2)) else (if x7 ≠ 0 then (if x4 = 0 then (if x5 = 0 then (-1) else (if x4 ≠ 0 then (-1) else 3)) else (if x6 ≠ 0 then (if x5 = 0 then (-1) else (if x4 ≠ 0 then (-1) else 3)) else 2)) else 1)) else (if x5 ≠ 0 then (if x6 = 0 then (if x4 = 0 then (if x5 = 0 then (-1) else (if x4 ≠ 0 then (-1) else 3)) else (if x6 ≠ 0 then (if x5 = 0 then (-1) else (if x4 ≠ 0 then (-1) else 3)) else 2)) else (if x7 ≠ 0 then (if x4 = 0 then (if x5 = 0 then (-1) else (if x4 ≠ 0 then (-1) else 3)) else (if x6 ≠ 0 then (if x5 = 0 then (-1) else (if x4 ≠ 0 then (-1) else 3)) else 2)) else 1)) else 0)) → Wp 3 1032 101 [some (.inr (.inr (10, 0))), some (.inl x1), some (.inl x2), some (.inl x3), some (.inl x4), some (.inl x5), some (.inl x6), some (.inl x7)] [.inl b] M (rI Q) := by
    intro b e_b
    replace h := h b e_b
    exact Wp.ret rfl ⟨_, rfl, h⟩
  clear h
  rcases Decidable.em (x7 = 0) with c_2 | c_2
  · refine Wp.path (k := 1) [1] (C := [x7 = 0]) (pc' := 58) (ls' := [some (.inr (.inr (10, 0))), some (.inl x1), some (.inl x2), some (.inl x3), some (.inl x4), some (.inl x5), some (.inl x6), some (.inl x7)]) (st' := []) (M' := M) rfl c_2 ?_
    refine Wp.path (k := 1) [] (C := []) (pc' := 60) (ls' := [some (.inr (.inr (10, 0))), some (.inl x1), some (.inl x2), some (.inl x3), some (.inl x4), some (.inl x5), some (.inl x6), some (.inl x7)]) (st' := [.inl x6]) (M' := M) rfl trivial ?_
    rcases Decidable.em (x6 = 0) with c_3 | c_3
    · refine Wp.path (k := 1) [1] (C := [x6 = 0]) (pc' := 72) (ls' := [some (.inr (.inr (10, 0))), some (.inl x1), some (.inl x2), some (.inl x3), some (.inl x4), some (.inl x5), some (.inl x6), some (.inl x7)]) (st' := []) (M' := M) rfl c_3 ?_
      refine Wp.path (k := 1) [] (C := []) (pc' := 74) (ls' := [some (.inr (.inr (10, 0))), some (.inl x1), some (.inl x2), some (.inl x3), some (.inl x4), some (.inl x5), some (.inl x6), some (.inl x7)]) (st' := [.inl x4]) (M' := M) rfl trivial ?_
      rcases Decidable.em (x4 = 0) with c_4 | c_4
      · refine Wp.path (k := 1) [1] (C := [x4 = 0]) (pc' := 86) (ls' := [some (.inr (.inr (10, 0))), some (.inl x1), some (.inl x2), some (.inl x3), some (.inl x4), some (.inl x5), some (.inl x6), some (.inl x7)]) (st' := []) (M' := M) rfl c_4 ?_
        refine Wp.path (k := 1) [] (C := []) (pc' := 88) (ls' := [some (.inr (.inr (10, 0))), some (.inl x1), some (.inl x2), some (.inl x3), some (.inl x4), some (.inl x5), some (.inl x6), some (.inl x7)]) (st' := [.inl x5]) (M' := M) rfl trivial ?_
        rcases Decidable.em (x5 = 0) with c_5 | c_5
        · refine Wp.path (k := 1) [1] (C := [x5 = 0]) (pc' := 100) (ls' := [some (.inr (.inr (10, 0))), some (.inl x1), some (.inl x2), some (.inl x3), some (.inl x4), some (.inl x5), some (.inl x6), some (.inl x7)]) (st' := []) (M' := M) rfl c_5 ?_
          refine Wp.path (k := 1) [] (C := []) (pc' := 101) (ls' := [some (.inr (.inr (10, 0))), some (.inl x1), some (.inl x2), some (.inl x3), some (.inl x4), some (.inl x5), some (.inl x6), some (.inl x7)]) (st' := [.inl (-1)]) (M' := M) rfl trivial ?_
          exact k_1 _ (by rw [if_pos c_2, if_pos c_3, if_pos c_4, if_pos c_5])
        · refine Wp.path (k := 1) [0] (C := [x5 ≠ 0]) (pc' := 91) (ls' := [some (.inr (.inr (10, 0))), some (.inl x1), some (.inl x2), some (.inl x3), some (.inl x4), some (.inl x5), some (.inl x6), some (.inl x7)]) (st' := []) (M' := M) rfl c_5 ?_
          refine Wp.path (k := 1) [] (C := []) (pc' := 93) (ls' := [some (.inr (.inr (10, 0))), some (.inl x1), some (.inl x2), some (.inl x3), some (.inl x4), some (.inl x5), some (.inl x6), some (.inl x7)]) (st' := [.inl x4]) (M' := M) rfl trivial ?_
          rcases Decidable.em (x4 = 0) with c_6 | c_6
          · refine Wp.path (k := 1) [0] (C := [x4 = 0]) (pc' := 96) (ls' := [some (.inr (.inr (10, 0))), some (.inl x1), some (.inl x2), some (.inl x3), some (.inl x4), some (.inl x5), some (.inl x6), some (.inl x7)]) (st' := []) (M' := M) rfl c_6 ?_
            refine Wp.path (k := 2) [] (C := []) (pc' := 101) (ls' := [some (.inr (.inr (10, 0))), some (.inl x1), some (.inl x2), some (.inl x3), some (.inl x4), some (.inl x5), some (.inl x6), some (.inl x7)]) (st' := [.inl 3]) (M' := M) rfl trivial ?_
            exact k_1 _ (by rw [if_pos c_2, if_pos c_3, if_pos c_4, if_neg c_5, if_neg (not_not_intro c_6)])
          · refine Wp.path (k := 1) [1] (C := [x4 ≠ 0]) (pc' := 100) (ls' := [some (.inr (.inr (10, 0))), some (.inl x1), some (.inl x2), some (.inl x3), some (.inl x4), some (.inl x5), some (.inl x6), some (.inl x7)]) (st' := []) (M' := M) rfl c_6 ?_
            refine Wp.path (k := 1) [] (C := []) (pc' := 101) (ls' := [some (.inr (.inr (10, 0))), some (.inl x1), some (.inl x2), some (.inl x3), some (.inl x4), some (.inl x5), some (.inl x6), some (.inl x7)]) (st' := [.inl (-1)]) (M' := M) rfl trivial ?_
            exact k_1 _ (by rw [if_pos c_2, if_pos c_3, if_pos c_4, if_neg c_5, if_pos c_6])
      · refine Wp.path (k := 1) [0] (C := [x4 ≠ 0]) (pc' := 77) (ls' := [some (.inr (.inr (10, 0))), some (.inl x1), some (.inl x2), some (.inl x3), some (.inl x4), some (.inl x5), some (.inl x6), some (.inl x7)]) (st' := []) (M' := M) rfl c_4 ?_
        refine Wp.path (k := 1) [] (C := []) (pc' := 79) (ls' := [some (.inr (.inr (10, 0))), some (.inl x1), some (.inl x2), some (.inl x3), some (.inl x4), some (.inl x5), some (.inl x6), some (.inl x7)]) (st' := [.inl x6]) (M' := M) rfl trivial ?_
        rcases Decidable.em (x6 = 0) with c_7 | c_7
        · refine Wp.path (k := 1) [0] (C := [x6 = 0]) (pc' := 82) (ls' := [some (.inr (.inr (10, 0))), some (.inl x1), some (.inl x2), some (.inl x3), some (.inl x4), some (.inl x5), some (.inl x6), some (.inl x7)]) (st' := []) (M' := M) rfl c_7 ?_
          refine Wp.path (k := 2) [] (C := []) (pc' := 101) (ls' := [some (.inr (.inr (10, 0))), some (.inl x1), some (.inl x2), some (.inl x3), some (.inl x4), some (.inl x5), some (.inl x6), some (.inl x7)]) (st' := [.inl 2]) (M' := M) rfl trivial ?_
          exact k_1 _ (by rw [if_pos c_2, if_pos c_3, if_neg c_4, if_neg (not_not_intro c_7)])
        · refine Wp.path (k := 1) [1] (C := [x6 ≠ 0]) (pc' := 86) (ls' := [some (.inr (.inr (10, 0))), some (.inl x1), some (.inl x2), some (.inl x3), some (.inl x4), some (.inl x5), some (.inl x6), some (.inl x7)]) (st' := []) (M' := M) rfl c_7 ?_
          refine Wp.path (k := 1) [] (C := []) (pc' := 88) (ls' := [some (.inr (.inr (10, 0))), some (.inl x1), some (.inl x2), some (.inl x3), some (.inl x4), some (.inl x5), some (.inl x6), some (.inl x7)]) (st' := [.inl x5]) (M' := M) rfl trivial ?_
          rcases Decidable.em (x5 = 0) with c_8 | c_8
          · refine Wp.path (k := 1) [1] (C := [x5 = 0]) (pc' := 100) (ls' := [some (.inr (.inr (10, 0))), some (.inl x1), some (.inl x2), some (.inl x3), some (.inl x4), some (.inl x5), some (.inl x6), some (.inl x7)]) (st' := []) (M' := M) rfl c_8 ?_
            refine Wp.path (k := 1) [] (C := []) (pc' := 101) (ls' := [some (.inr (.inr (10, 0))), some (.inl x1), some (.inl x2), some (.inl x3), some (.inl x4), some (.inl x5), some (.inl x6), some (.inl x7)]) (st' := [.inl (-1)]) (M' := M) rfl trivial ?_
            exact k_1 _ (by rw [if_pos c_2, if_pos c_3, if_neg c_4, if_pos c_7, if_pos c_8])
          · refine Wp.path (k := 1) [0] (C := [x5 ≠ 0]) (pc' := 91) (ls' := [some (.inr (.inr (10, 0))), some (.inl x1), some (.inl x2), some (.inl x3), some (.inl x4), some (.inl x5), some (.inl x6), some (.inl x7)]) (st' := []) (M' := M) rfl c_8 ?_
            refine Wp.path (k := 1) [] (C := []) (pc' := 93) (ls' := [some (.inr (.inr (10, 0))), some (.inl x1), some (.inl x2), some (.inl x3), some (.inl x4), some (.inl x5), some (.inl x6), some (.inl x7)]) (st' := [.inl x4]) (M' := M) rfl trivial ?_
            rcases Decidable.em (x4 = 0) with c_9 | c_9
            · refine Wp.path (k := 1) [0] (C := [x4 = 0]) (pc' := 96) (ls' := [some (.inr (.inr (10, 0))), some (.inl x1), some (.inl x2), some (.inl x3), some (.inl x4), some (.inl x5), some (.inl x6), some (.inl x7)]) (st' := []) (M' := M) rfl c_9 ?_
              refine Wp.path (k := 2) [] (C := []) (pc' := 101) (ls' := [some (.inr (.inr (10, 0))), some (.inl x1), some (.inl x2), some (.inl x3), some (.inl x4), some (.inl x5), some (.inl x6), some (.inl x7)]) (st' := [.inl 3]) (M' := M) rfl trivial ?_
              exact k_1 _ (by rw [if_pos c_2, if_pos c_3, if_neg c_4, if_pos c_7, if_neg c_8, if_neg (not_not_intro c_9)])
            · refine Wp.path (k := 1) [1] (C := [x4 ≠ 0]) (pc' := 100) (ls' := [some (.inr (.inr (10, 0))), some (.inl x1), some (.inl x2), some (.inl x3), some (.inl x4), some (.inl x5), some (.inl x6), some (.inl x7)]) (st' := []) (M' := M) rfl c_9 ?_
              refine Wp.path (k := 1) [] (C := []) (pc' := 101) (ls' := [some (.inr (.inr (10, 0))), some (.inl x1), some (.inl x2), some (.inl x3), some (.inl x4), some (.inl x5), some (.inl x6), some (.inl x7)]) (st' := [.inl (-1)]) (M' := M) rfl trivial ?_
              exact k_1 _ (by rw [if_pos c_2, if_pos c_3, if_neg c_4, if_pos c_7, if_neg c_8, if_pos c_9])
    · refine Wp.path (k := 1) [0] (C := [x6 ≠ 0]) (pc' := 63) (ls' := [some (.inr (.inr (10, 0))), some (.inl x1), some (.inl x2), some (.inl x3), some (.inl x4), some (.inl x5), some (.inl x6), some (.inl x7)]) (st' := []) (M' := M) rfl c_3 ?_
      refine Wp.path (k := 1) [] (C := []) (pc' := 65) (ls' := [some (.inr (.inr (10, 0))), some (.inl x1), some (.inl x2), some (.inl x3), some (.inl x4), some (.inl x5), some (.inl x6), some (.inl x7)]) (st' := [.inl x7]) (M' := M) rfl trivial ?_
      rcases Decidable.em (x7 = 0) with c_10 | c_10
      · refine Wp.path (k := 1) [0] (C := [x7 = 0]) (pc' := 68) (ls' := [some (.inr (.inr (10, 0))), some (.inl x1), some (.inl x2), some (.inl x3), some (.inl x4), some (.inl x5), some (.inl x6), some (.inl x7)]) (st' := []) (M' := M) rfl c_10 ?_
        refine Wp.path (k := 2) [] (C := []) (pc' := 101) (ls' := [some (.inr (.inr (10, 0))), some (.inl x1), some (.inl x2), some (.inl x3), some (.inl x4), some (.inl x5), some (.inl x6), some (.inl x7)]) (st' := [.inl 1]) (M' := M) rfl trivial ?_
        exact k_1 _ (by rw [if_pos c_2, if_neg c_3, if_neg (not_not_intro c_10)])
      · refine Wp.path (k := 1) [1] (C := [x7 ≠ 0]) (pc' := 72) (ls' := [some (.inr (.inr (10, 0))), some (.inl x1), some (.inl x2), some (.inl x3), some (.inl x4), some (.inl x5), some (.inl x6), some (.inl x7)]) (st' := []) (M' := M) rfl c_10 ?_
        refine Wp.path (k := 1) [] (C := []) (pc' := 74) (ls' := [some (.inr (.inr (10, 0))), some (.inl x1), some (.inl x2), some (.inl x3), some (.inl x4), some (.inl x5), some (.inl x6), some (.inl x7)]) (st' := [.inl x4]) (M' := M) rfl trivial ?_
        rcases Decidable.em (x4 = 0) with c_11 | c_11
        · refine Wp.path (k := 1) [1] (C := [x4 = 0]) (pc' := 86) (ls' := [some (.inr (.inr (10, 0))), some (.inl x1), some (.inl x2), some (.inl x3), some (.inl x4), some (.inl x5), some (.inl x6), some (.inl x7)]) (st' := []) (M' := M) rfl c_11 ?_
          refine Wp.path (k := 1) [] (C := []) (pc' := 88) (ls' := [some (.inr (.inr (10, 0))), some (.inl x1), some (.inl x2), some (.inl x3), some (.inl x4), some (.inl x5), some (.inl x6), some (.inl x7)]) (st' := [.inl x5]) (M' := M) rfl trivial ?_
          rcases Decidable.em (x5 = 0) with c_12 | c_12
          · refine Wp.path (k := 1) [1] (C := [x5 = 0]) (pc' := 100) (ls' := [some (.inr (.inr (10, 0))), some (.inl x1), some (.inl x2), some (.inl x3), some (.inl x4), some (.inl x5), some (.inl x6), some (.inl x7)]) (st' := []) (M' := M) rfl c_12 ?_
            refine Wp.path (k := 1) [] (C := []) (pc' := 101) (ls' := [some (.inr (.inr (10, 0))), some (.inl x1), some (.inl x2), some (.inl x3), some (.inl x4), some (.inl x5), some (.inl x6), some (.inl x7)]) (st' := [.inl (-1)]) (M' := M) rfl trivial ?_
            exact k_1 _ (by rw [if_pos c_2, if_neg c_3, if_pos c_10, if_pos c_11, if_pos c_12])
          · refine Wp.path (k := 1) [0] (C := [x5 ≠ 0]) (pc' := 91) (ls' := [some (.inr (.inr (10, 0))), some (.inl x1), some (.inl x2), some (.inl x3), some (.inl x4), some (.inl x5), some (.inl x6), some (.inl x7)]) (st' := []) (M' := M) rfl c_12 ?_
            refine Wp.path (k := 1) [] (C := []) (pc' := 93) (ls' := [some (.inr (.inr (10, 0))), some (.inl x1), some (.inl x2), some (.inl x3), some (.inl x4), some (.inl x5), some (.inl x6), some (.inl x7)]) (st' := [.inl x4]) (M' := M) rfl trivial ?_
            rcases Decidable.em (x4 = 0) with c_13 | c_13
            · refine Wp.path (k := 1) [0] (C := [x4 = 0]) (pc' := 96) (ls' := [some (.inr (.inr (10, 0))), some (.inl x1), some (.inl x2), some (.inl x3), some (.inl x4), some (.inl x5), some (.inl x6), some (.inl x7)]) (st' := []) (M' := M) rfl c_13 ?_
              refine Wp.path (k := 2) [] (C := []) (pc' := 101) (ls' := [some (.inr (.inr (10, 0))), some (.inl x1), some (.inl x2), some (.inl x3), some (.inl x4), some (.inl x5), some (.inl x6), some (.inl x7)]) (st' := [.inl 3]) (M' := M) rfl trivial ?_
              exact k_1 _ (by rw [if_pos c_2, if_neg c_3, if_pos c_10, if_pos c_11, if_neg c_12, if_neg (not_not_intro c_13)])
            · refine Wp.path (k := 1) [1] (C := [x4 ≠ 0]) (pc' := 100) (ls' := [some (.inr (.inr (10, 0))), some (.inl x1), some (.inl x2), some (.inl x3), some (.inl x4), some (.inl x5), some (.inl x6), some (.inl x7)]) (st' := []) (M' := M) rfl c_13 ?_
              refine Wp.path (k := 1) [] (C := []) (pc' := 101) (ls' := [some (.inr (.inr (10, 0))), some (.inl x1), some (.inl x2), some (.inl x3), some (.inl x4), some (.inl x5), some (.inl x6), some (.inl x7)]) (st' := [.inl (-1)]) (M' := M) rfl trivial ?_
              exact k_1 _ (by rw [if_pos c_2, if_neg c_3, if_pos c_10, if_pos c_11, if_neg c_12, if_pos c_13])
        · refine Wp.path (k := 1) [0] (C := [x4 ≠ 0]) (pc' := 77) (ls' := [some (.inr (.inr (10, 0))), some (.inl x1), some (.inl x2), some (.inl x3), some (.inl x4), some (.inl x5), some (.inl x6), some (.inl x7)]) (st' := []) (M' := M) rfl c_11 ?_
          refine Wp.path (k := 1) [] (C := []) (pc' := 79) (ls' := [some (.inr (.inr (10, 0))), some (.inl x1), some (.inl x2), some (.inl x3), some (.inl x4), some (.inl x5), some (.inl x6), some (.inl x7)]) (st' := [.inl x6]) (M' := M) rfl trivial ?_
          rcases Decidable.em (x6 = 0) with c_14 | c_14
          · refine Wp.path (k := 1) [0] (C := [x6 = 0]) (pc' := 82) (ls' := [some (.inr (.inr (10, 0))), some (.inl x1), some (.inl x2), some (.inl x3), some (.inl x4), some (.inl x5), some (.inl x6), some (.inl x7)]) (st' := []) (M' := M) rfl c_14 ?_
            refine Wp.path (k := 2) [] (C := []) (pc' := 101) (ls' := [some (.inr (.inr (10, 0))), some (.inl x1), some (.inl x2), some (.inl x3), some (.inl x4), some (.inl x5), some (.inl x6), some (.inl x7)]) (st' := [.inl 2]) (M' := M) rfl trivial ?_
            exact k_1 _ (by rw [if_pos c_2, if_neg c_3, if_pos c_10, if_neg c_11, if_neg (not_not_intro c_14)])
          · refine Wp.path (k := 1) [1] (C := [x6 ≠ 0]) (pc' := 86) (ls' := [some (.inr (.inr (10, 0))), some (.inl x1), some (.inl x2), some (.inl x3), some (.inl x4), some (.inl x5), some (.inl x6), some (.inl x7)]) (st' := []) (M' := M) rfl c_14 ?_
            refine Wp.path (k := 1) [] (C := []) (pc' := 88) (ls' := [some (.inr (.inr (10, 0))), some (.inl x1), some (.inl x2), some (.inl x3), some (.inl x4), some (.inl x5), some (.inl x6), some (.inl x7)]) (st' := [.inl x5]) (M' := M) rfl trivial ?_
            rcases Decidable.em (x5 = 0) with c_15 | c_15
            · refine Wp.path (k := 1) [1] (C := [x5 = 0]) (pc' := 100) (ls' := [some (.inr (.inr (10, 0))), some (.inl x1), some (.inl x2), some (.inl x3), some (.inl x4), some (.inl x5), some (.inl x6), some (.inl x7)]) (st' := []) (M' := M) rfl c_15 ?_
              refine Wp.path (k := 1) [] (C := []) (pc' := 101) (ls' := [some (.inr (.inr (10, 0))), some (.inl x1), some (.inl x2), some (.inl x3), some (.inl x4), some (.inl x5), some (.inl x6), some (.inl x7)]) (st' := [.inl (-1)]) (M' := M) rfl trivial ?_
              exact k_1 _ (by rw [if_pos c_2, if_neg c_3, if_pos c_10, if_neg c_11, if_pos c_14, if_pos c_15])
            · refine Wp.path (k := 1) [0] (C := [x5 ≠ 0]) (pc' := 91) (ls' := [some (.inr (.inr (10, 0))), some (.inl x1), some (.inl x2), some (.inl x3), some (.inl x4), some (.inl x5), some (.inl x6), some (.inl x7)]) (st' := []) (M' := M) rfl c_15 ?_
              refine Wp.path (k := 1) [] (C := []) (pc' := 93) (ls' := [some (.inr (.inr (10, 0))), some (.inl x1), some (.inl x2), some (.inl x3), some (.inl x4), some (.inl x5), some (.inl x6), some (.inl x7)]) (st' := [.inl x4]) (M' := M) rfl trivial ?_
              rcases Decidable.em (x4 = 0) with c_16 | c_16
              · refine Wp.path (k := 1) [0] (C := [x4 = 0]) (pc' := 96) (ls' := [some (.inr (.inr (10, 0))), some (.inl x1), some (.inl x2), some (.inl x3), some (.inl x4), some (.inl x5), some (.inl x6), some (.inl x7)]) (st' := []) (M' := M) rfl c_16 ?_
                refine Wp.path (k := 2) [] (C := []) (pc' := 101) (ls' := [some (.inr (.inr (10, 0))), some (.inl x1), some (.inl x2), some (.inl x3), some (.inl x4), some (.inl x5), some (.inl x6), some (.inl x7)]) (st' := [.inl 3]) (M' := M) rfl trivial ?_
                exact k_1 _ (by rw [if_pos c_2, if_neg c_3, if_pos c_10, if_neg c_11, if_pos c_14, if_neg c_15, if_neg (not_not_intro c_16)])
              · refine Wp.path (k := 1) [1] (C := [x4 ≠ 0]) (pc' := 100) (ls' := [some (.inr (.inr (10, 0))), some (.inl x1), some (.inl x2), some (.inl x3), some (.inl x4), some (.inl x5), some (.inl x6), some (.inl x7)]) (st' := []) (M' := M) rfl c_16 ?_
                refine Wp.path (k := 1) [] (C := []) (pc' := 101) (ls' := [some (.inr (.inr (10, 0))), some (.inl x1), some (.inl x2), some (.inl x3), some (.inl x4), some (.inl x5), some (.inl x6), some (.inl x7)]) (st' := [.inl (-1)]) (M' := M) rfl trivial ?_
                exact k_1 _ (by rw [if_pos c_2, if_neg c_3, if_pos c_10, if_neg c_11, if_pos c_14, if_neg c_15, if_pos c_16])
  · refine Wp.path (k := 1) [0] (C := [x7 ≠ 0]) (pc' := 49) (ls' := [some (.inr (.inr (10, 0))), some (.inl x1), some (.inl x2), some (.inl x3), some (.inl x4), some (.inl x5), some (.inl x6), some (.inl x7)]) (st' := []) (M' := M) rfl c_2 ?_
    refine Wp.path (k := 1) [] (C := []) (pc' := 51) (ls' := [some (.inr (.inr (10, 0))), some (.inl x1), some (.inl x2), some (.inl x3), some (.inl x4), some (.inl x5), some (.inl x6), some (.inl x7)]) (st' := [.inl x5]) (M' := M) rfl trivial ?_
    rcases Decidable.em (x5 = 0) with c_17 | c_17
    · refine Wp.path (k := 1) [0] (C := [x5 = 0]) (pc' := 54) (ls' := [some (.inr (.inr (10, 0))), some (.inl x1), some (.inl x2), some (.inl x3), some (.inl x4), some (.inl x5), some (.inl x6), some (.inl x7)]) (st' := []) (M' := M) rfl c_17 ?_
      refine Wp.path (k := 2) [] (C := []) (pc' := 101) (ls' := [some (.inr (.inr (10, 0))), some (.inl x1), some (.inl x2), some (.inl x3), some (.inl x4), some (.inl x5), some (.inl x6), some (.inl x7)]) (st' := [.inl 0]) (M' := M) rfl trivial ?_
      exact k_1 _ (by rw [if_neg c_2, if_neg (not_not_intro c_17)])
    · refine Wp.path (k := 1) [1] (C := [x5 ≠ 0]) (pc' := 58) (ls' := [some (.inr (.inr (10, 0))), some (.inl x1), some (.inl x2), some (.inl x3), some (.inl x4), some (.inl x5), some (.inl x6), some (.inl x7)]) (st' := []) (M' := M) rfl c_17 ?_
      refine Wp.path (k := 1) [] (C := []) (pc' := 60) (ls' := [some (.inr (.inr (10, 0))), some (.inl x1), some (.inl x2), some (.inl x3), some (.inl x4), some (.inl x5), some (.inl x6), some (.inl x7)]) (st' := [.inl x6]) (M' := M) rfl trivial ?_
      rcases Decidable.em (x6 = 0) with c_18 | c_18
      · refine Wp.path (k := 1) [1] (C := [x6 = 0]) (pc' := 72) (ls' := [some (.inr (.inr (10, 0))), some (.inl x1), some (.inl x2), some (.inl x3), some (.inl x4), some (.inl x5), some (.inl x6), some (.inl x7)]) (st' := []) (M' := M) rfl c_18 ?_
        refine Wp.path (k := 1) [] (C := []) (pc' := 74) (ls' := [some (.inr (.inr (10, 0))), some (.inl x1), some (.inl x2), some (.inl x3), some (.inl x4), some (.inl x5), some (.inl x6), some (.inl x7)]) (st' := [.inl x4]) (M' := M) rfl trivial ?_
        rcases Decidable.em (x4 = 0) with c_19 | c_19
        · refine Wp.path (k := 1) [1] (C := [x4 = 0]) (pc' := 86) (ls' := [some (.inr (.inr (10, 0))), some (.inl x1), some (.inl x2), some (.inl x3), some (.inl x4), some (.inl x5), some (.inl x6), some (.inl x7)]) (st' := []) (M' := M) rfl c_19 ?_
          refine Wp.path (k := 1) [] (C := []) (pc' := 88) (ls' := [some (.inr (.inr (10, 0))), some (.inl x1), some (.inl x2), some (.inl x3), some (.inl x4), some (.inl x5), some (.inl x6), some (.inl x7)]) (st' := [.inl x5]) (M' := M) rfl trivial ?_
          rcases Decidable.em (x5 = 0) with c_20 | c_20
          · refine Wp.path (k := 1) [1] (C := [x5 = 0]) (pc' := 100) (ls' := [some (.inr (.inr (10, 0))), some (.inl x1), some (.inl x2), some (.inl x3), some (.inl x4), some (.inl x5), some (.inl x6), some (.inl x7)]) (st' := []) (M' := M) rfl c_20 ?_
            refine Wp.path (k := 1) [] (C := []) (pc' := 101) (ls' := [some (.inr (.inr (10, 0))), some (.inl x1), some (.inl x2), some (.inl x3), some (.inl x4), some (.inl x5), some (.inl x6), some (.inl x7)]) (st' := [.inl (-1)]) (M' := M) rfl trivial ?_
            exact k_1 _ (by rw [if_neg c_2, if_pos c_17, if_pos c_18, if_pos c_19, if_pos c_20])
          · refine Wp.path (k := 1) [0] (C := [x5 ≠ 0]) (pc' := 91) (ls' := [some (.inr (.inr (10, 0))), some (.inl x1), some (.inl x2), some (.inl x3), some (.inl x4), some (.inl x5), some (.inl x6), some (.inl x7)]) (st' := []) (M' := M) rfl c_20 ?_
            refine Wp.path (k := 1) [] (C := []) (pc' := 93) (ls' := [some (.inr (.inr (10, 0))), some (.inl x1), some (.inl x2), some (.inl x3), some (.inl x4), some (.inl x5), some (.inl x6), some (.inl x7)]) (st' := [.inl x4]) (M' := M) rfl trivial ?_
            rcases Decidable.em (x4 = 0) with c_21 | c_21
            · refine Wp.path (k := 1) [0] (C := [x4 = 0]) (pc' := 96) (ls' := [some (.inr (.inr (10, 0))), some (.inl x1), some (.inl x2), some (.inl x3), some (.inl x4), some (.inl x5), some (.inl x6), some (.inl x7)]) (st' := []) (M' := M) rfl c_21 ?_
              refine Wp.path (k := 2) [] (C := []) (pc' := 101) (ls' := [some (.inr (.inr (10, 0))), some (.inl x1), some (.inl x2), some (.inl x3), some (.inl x4), some (.inl x5), some (.inl x6), some (.inl x7)]) (st' := [.inl 3]) (M' := M) rfl trivial ?_
              exact k_1 _ (by rw [if_neg c_2, if_pos c_17, if_pos c_18, if_pos c_19, if_neg c_20, if_neg (not_not_intro c_21)])
            · refine Wp.path (k := 1) [1] (C := [x4 ≠ 0]) (pc' := 100) (ls' := [some (.inr (.inr (10, 0))), some (.inl x1), some (.inl x2), some (.inl x3), some (.inl x4), some (.inl x5), some (.inl x6), some (.inl x7)]) (st' := []) (M' := M) rfl c_21 ?_
              refine Wp.path (k := 1) [] (C := []) (pc' := 101) (ls' := [some (.inr (.inr (10, 0))), some (.inl x1), some (.inl x2), some (.inl x3), some (.inl x4), some (.inl x5), some (.inl x6), some (.inl x7)]) (st' := [.inl (-1)]) (M' := M) rfl trivial ?_
              exact k_1 _ (by rw [if_neg c_2, if_pos c_17, if_pos c_18, if_pos c_19, if_neg c_20, if_pos c_21])
        · refine Wp.path (k := 1) [0] (C := [x4 ≠ 0]) (pc' := 77) (ls' := [some (.inr (.inr (10, 0))), some (.inl x1), some (.inl x2), some (.inl x3), some (.inl x4), some (.inl x5), some (.inl x6), some (.inl x7)]) (st' := []) (M' := M) rfl c_19 ?_
          refine Wp.path (k := 1) [] (C := []) (pc' := 79) (ls' := [some (.inr (.inr (10, 0))), some (.inl x1), some (.inl x2), some (.inl x3), some (.inl x4), some (.inl x5), some (.inl x6), some (.inl x7)]) (st' := [.inl x6]) (M' := M) rfl trivial ?_
          rcases Decidable.em (x6 = 0) with c_22 | c_22
          · refine Wp.path (k := 1) [0] (C := [x6 = 0]) (pc' := 82) (ls' := [some (.inr (.inr (10, 0))), some (.inl x1), some (.inl x2), some (.inl x3), some (.inl x4), some (.inl x5), some (.inl x6), some (.inl x7)]) (st' := []) (M' := M) rfl c_22 ?_
            refine Wp.path (k := 2) [] (C := []) (pc' := 101) (ls' := [some (.inr (.inr (10, 0))), some (.inl x1), some (.inl x2), some (.inl x3), some (.inl x4), some (.inl x5), some (.inl x6), some (.inl x7)]) (st' := [.inl 2]) (M' := M) rfl trivial ?_
            exact k_1 _ (by rw [if_neg c_2, if_pos c_17, if_pos c_18, if_neg c_19, if_neg (not_not_intro c_22)])
          · refine Wp.path (k := 1) [1] (C := [x6 ≠ 0]) (pc' := 86) (ls' := [some (.inr (.inr (10, 0))), some (.inl x1), some (.inl x2), some (.inl x3), some (.inl x4), some (.inl x5), some (.inl x6), some (.inl x7)]) (st' := []) (M' := M) rfl c_22 ?_
            refine Wp.path (k := 1) [] (C := []) (pc' := 88) (ls' := [some (.inr (.inr (10, 0))), some (.inl x1), some (.inl x2), some (.inl x3), some (.inl x4), some (.inl x5), some (.inl x6), some (.inl x7)]) (st' := [.inl x5]) (M' := M) rfl trivial ?_
            rcases Decidable.em (x5 = 0) with c_23 | c_23
            · refine Wp.path (k := 1) [1] (C := [x5 = 0]) (pc' := 100) (ls' := [some (.inr (.inr (10, 0))), some (.inl x1), some (.inl x2), some (.inl x3), some (.inl x4), some (.inl x5), some (.inl x6), some (.inl x7)]) (st' := []) (M' := M) rfl c_23 ?_
              refine Wp.path (k := 1) [] (C := []) (pc' := 101) (ls' := [some (.inr (.inr (10, 0))), some (.inl x1), some (.inl x2), some (.inl x3), some (.inl x4), some (.inl x5), some (.inl x6), some (.inl x7)]) (st' := [.inl (-1)]) (M' := M) rfl trivial ?_
              exact k_1 _ (by rw [if_neg c_2, if_pos c_17, if_pos c_18, if_neg c_19, if_pos c_22, if_pos c_23])
            · refine Wp.path (k := 1) [0] (C := [x5 ≠ 0]) (pc' := 91) (ls' := [some (.inr (.inr (10, 0))), some (.inl x1), some (.inl x2), some (.inl x3), some (.inl x4), some (.inl x5), some (.inl x6), some (.inl x7)]) (st' := []) (M' := M) rfl c_23 ?_
              refine Wp.path (k := 1) [] (C := []) (pc' := 93) (ls' := [some (.inr (.inr (10, 0))), some (.inl x1), some (.inl x2), some (.inl x3), some (.inl x4), some (.inl x5), some (.inl x6), some (.inl x7)]) (st' := [.inl x4]) (M' := M) rfl trivial ?_
              rcases Decidable.em (x4 = 0) with c_24 | c_24
              · refine Wp.path (k := 1) [0] (C := [x4 = 0]) (pc' := 96) (ls' := [some (.inr (.inr (10, 0))), some (.inl x1), some (.inl x2), some (.inl x3), some (.inl x4), some (.inl x5), some (.inl x6), some (.inl x7)]) (st' := []) (M' := M) rfl c_24 ?_
                refine Wp.path (k := 2) [] (C := []) (pc' := 101) (ls' := [some (.inr (.inr (10, 0))), some (.inl x1), some (.inl x2), some (.inl x3), some (.inl x4), some (.inl x5), some (.inl x6), some (.inl x7)]) (st' := [.inl 3]) (M' := M) rfl trivial ?_
                exact k_1 _ (by rw [if_neg c_2, if_pos c_17, if_pos c_18, if_neg c_19, if_pos c_22, if_neg c_23, if_neg (not_not_intro c_24)])
              · refine Wp.path (k := 1) [1] (C := [x4 ≠ 0]) (pc' := 100) (ls' := [some (.inr (.inr (10, 0))), some (.inl x1), some (.inl x2), some (.inl x3), some (.inl x4), some (.inl x5), some (.inl x6), some (.inl x7)]) (st' := []) (M' := M) rfl c_24 ?_
                refine Wp.path (k := 1) [] (C := []) (pc' := 101) (ls' := [some (.inr (.inr (10, 0))), some (.inl x1), some (.inl x2), some (.inl x3), some (.inl x4), some (.inl x5), some (.inl x6), some (.inl x7)]) (st' := [.inl (-1)]) (M' := M) rfl trivial ?_
                exact k_1 _ (by rw [if_neg c_2, if_pos c_17, if_pos c_18, if_neg c_19, if_pos c_22, if_neg c_23, if_pos c_24])
      · refine Wp.path (k := 1) [0] (C := [x6 ≠ 0]) (pc' := 63) (ls' := [some (.inr (.inr (10, 0))), some (.inl x1), some (.inl x2), some (.inl x3), some (.inl x4), some (.inl x5), some (.inl x6), some (.inl x7)]) (st' := []) (M' := M) rfl c_18 ?_
        refine Wp.path (k := 1) [] (C := []) (pc' := 65) (ls' := [some (.inr (.inr (10, 0))), some (.inl x1), some (.inl x2), some (.inl x3), some (.inl x4), some (.inl x5), some (.inl x6), some (.inl x7)]) (st' := [.inl x7]) (M' := M) rfl trivial ?_
        rcases Decidable.em (x7 = 0) with c_25 | c_25
        · refine Wp.path (k := 1) [0] (C := [x7 = 0]) (pc' := 68) (ls' := [some (.inr (.inr (10, 0))), some (.inl x1), some (.inl x2), some (.inl x3), some (.inl x4), some (.inl x5), some (.inl x6), some (.inl x7)]) (st' := []) (M' := M) rfl c_25 ?_
          refine Wp.path (k := 2) [] (C := []) (pc' := 101) (ls' := [some (.inr (.inr (10, 0))), some (.inl x1), some (.inl x2), some (.inl x3), some (.inl x4), some (.inl x5), some (.inl x6), some (.inl x7)]) (st' := [.inl 1]) (M' := M) rfl trivial ?_
          exact k_1 _ (by rw [if_neg c_2, if_pos c_17, if_neg c_18, if_neg (not_not_intro c_25)])
        · refine Wp.path (k := 1) [1] (C := [x7 ≠ 0]) (pc' := 72) (ls' := [some (.inr (.inr (10, 0))), some (.inl x1), some (.inl x2), some (.inl x3), some (.inl x4), some (.inl x5), some (.inl x6), some (.inl x7)]) (st' := []) (M' := M) rfl c_25 ?_
          refine Wp.path (k := 1) [] (C := []) (pc' := 74) (ls' := [some (.inr (.inr (10, 0))), some (.inl x1), some (.inl x2), some (.inl x3), some (.inl x4), some (.inl x5), some (.inl x6), some (.inl x7)]) (st' := [.inl x4]) (M' := M) rfl trivial ?_
          rcases Decidable.em (x4 = 0) with c_26 | c_26
          · refine Wp.path (k := 1) [1] (C := [x4 = 0]) (pc' := 86) (ls' := [some (.inr (.inr (10, 0))), some (.inl x1), some (.inl x2), some (.inl x3), some (.inl x4), some (.inl x5), some (.inl x6), some (.inl x7)]) (st' := []) (M' := M) rfl c_26 ?_
            refine Wp.path (k := 1) [] (C := []) (pc' := 88) (ls' := [some (.inr (.inr (10, 0))), some (.inl x1), some (.inl x2), some (.inl x3), some (.inl x4), some (.inl x5), some (.inl x6), some (.inl x7)]) (st' := [.inl x5]) (M' := M) rfl trivial ?_
            rcases Decidable.em (x5 = 0) with c_27 | c_27
            · refine Wp.path (k := 1) [1] (C := [x5 = 0]) (pc' := 100) (ls' := [some (.inr (.inr (10, 0))), some (.inl x1), some (.inl x2), some (.inl x3), some (.inl x4), some (.inl x5), some (.inl x6), some (.inl x7)]) (st' := []) (M' := M) rfl c_27 ?_
              refine Wp.path (k := 1) [] (C := []) (pc' := 101) (ls' := [some (.inr (.inr (10, 0))), some (.inl x1), some (.inl x2), some (.inl x3), some (.inl x4), some (.inl x5), some (.inl x6), some (.inl x7)]) (st' := [.inl (-1)]) (M' := M) rfl trivial ?_
              exact k_1 _ (by rw [if_neg c_2, if_pos c_17, if_neg c_18, if_pos c_25, if_pos c_26, if_pos c_27])
            · refine Wp.path (k := 1) [0] (C := [x5 ≠ 0]) (pc' := 91) (ls' := [some (.inr (.inr (10, 0))), some (.inl x1), some (.inl x2), some (.inl x3), some (.inl x4), some (.inl x5), some (.inl x6), some (.inl x7)]) (st' := []) (M' := M) rfl c_27 ?_
              refine Wp.path (k := 1) [] (C := []) (pc' := 93) (ls' := [some (.inr (.inr (10, 0))), some (.inl x1), some (.inl x2), some (.inl x3), some (.inl x4), some (.inl x5), some (.inl x6), some (.inl x7)]) (st' := [.inl x4]) (M' := M) rfl trivial ?_
              rcases Decidable.em (x4 = 0) with c_28 | c_28
              · refine Wp.path (k := 1) [0] (C := [x4 = 0]) (pc' := 96) (ls' := [some (.inr (.inr (10, 0))), some (.inl x1), some (.inl x2), some (.inl x3), some (.inl x4), some (.inl x5), some (.inl x6), some (.inl x7)]) (st' := []) (M' := M) rfl c_28 ?_
                refine Wp.path (k := 2) [] (C := []) (pc' := 101) (ls' := [some (.inr (.inr (10, 0))), some (.inl x1), some (.inl x2), some (.inl x3), some (.inl x4), some (.inl x5), some (.inl x6), some (.inl x7)]) (st' := [.inl 3]) (M' := M) rfl trivial ?_
                exact k_1 _ (by rw [if_neg c_2, if_pos c_17, if_neg c_18, if_pos c_25, if_pos c_26, if_neg c_27, if_neg (not_not_intro c_28)])
              · refine Wp.path (k := 1) [1] (C := [x4 ≠ 0]) (pc' := 100) (ls' := [some (.inr (.inr (10, 0))), some (.inl x1), some (.inl x2), some (.inl x3), some (.inl x4), some (.inl x5), some (.inl x6), some (.inl x7)]) (st' := []) (M' := M) rfl c_28 ?_
                refine Wp.path (k := 1) [] (C := []) (pc' := 101) (ls' := [some (.inr (.inr (10, 0))), some (.inl x1), some (.inl x2), some (.inl x3), some (.inl x4), some (.inl x5), some (.inl x6), some (.inl x7)]) (st' := [.inl (-1)]) (M' := M) rfl trivial ?_
                exact k_1 _ (by rw [if_neg c_2, if_pos c_17, if_neg c_18, if_pos c_25, if_pos c_26, if_neg c_27, if_pos c_28])
          · refine Wp.path (k := 1) [0] (C := [x4 ≠ 0]) (pc' := 77) (ls' := [some (.inr (.inr (10, 0))), some (.inl x1), some (.inl x2), some (.inl x3), some (.inl x4), some (.inl x5), some (.inl x6), some (.inl x7)]) (st' := []) (M' := M) rfl c_26 ?_
            refine Wp.path (k := 1) [] (C := []) (pc' := 79) (ls' := [some (.inr (.inr (10, 0))), some (.inl x1), some (.inl x2), some (.inl x3), some (.inl x4), some (.inl x5), some (.inl x6), some (.inl x7)]) (st' := [.inl x6]) (M' := M) rfl trivial ?_
            rcases Decidable.em (x6 = 0) with c_29 | c_29
            · refine Wp.path (k := 1) [0] (C := [x6 = 0]) (pc' := 82) (ls' := [some (.inr (.inr (10, 0))), some (.inl x1), some (.inl x2), some (.inl x3), some (.inl x4), some (.inl x5), some (.inl x6), some (.inl x7)]) (st' := []) (M' := M) rfl c_29 ?_
              refine Wp.path (k := 2) [] (C := []) (pc' := 101) (ls' := [some (.inr (.inr (10, 0))), some (.inl x1), some (.inl x2), some (.inl x3), some (.inl x4), some (.inl x5), some (.inl x6), some (.inl x7)]) (st' := [.inl 2]) (M' := M) rfl trivial ?_
              exact k_1 _ (by rw [if_neg c_2, if_pos c_17, if_neg c_18, if_pos c_25, if_neg c_26, if_neg (not_not_intro c_29)])
            · refine Wp.path (k := 1) [1] (C := [x6 ≠ 0]) (pc' := 86) (ls' := [some (.inr (.inr (10, 0))), some (.inl x1), some (.inl x2), some (.inl x3), some (.inl x4), some (.inl x5), some (.inl x6), some (.inl x7)]) (st' := []) (M' := M) rfl c_29 ?_
              refine Wp.path (k := 1) [] (C := []) (pc' := 88) (ls' := [some (.inr (.inr (10, 0))), some (.inl x1), some (.inl x2), some (.inl x3), some (.inl x4), some (.inl x5), some (.inl x6), some (.inl x7)]) (st' := [.inl x5]) (M' := M) rfl trivial ?_
              rcases Decidable.em (x5 = 0) with c_30 | c_30
              · refine Wp.path (k := 1) [1] (C := [x5 = 0]) (pc' := 100) (ls' := [some (.inr (.inr (10, 0))), some (.inl x1), some (.inl x2), some (.inl x3), some (.inl x4), some (.inl x5), some (.inl x6), some (.inl x7)]) (st' := []) (M' := M) rfl c_30 ?_
                refine Wp.path (k := 1) [] (C := []) (pc' := 101) (ls' := [some (.inr (.inr (10, 0))), some (.inl x1), some (.inl x2), some (.inl x3), some (.inl x4), some (.inl x5), some (.inl x6), some (.inl x7)]) (st' := [.inl (-1)]) (M' := M) rfl trivial ?_
                exact k_1 _ (by rw [if_neg c_2, if_pos c_17, if_neg c_18, if_pos c_25, if_neg c_26, if_pos c_29, if_pos c_30])
              · refine Wp.path (k := 1) [0] (C := [x5 ≠ 0]) (pc' := 91) (ls' := [some (.inr (.inr (10, 0))), some (.inl x1), some (.inl x2), some (.inl x3), some (.inl x4), some (.inl x5), some (.inl x6), some (.inl x7)]) (st' := []) (M' := M) rfl c_30 ?_
                refine Wp.path (k := 1) [] (C := []) (pc' := 93) (ls' := [some (.inr (.inr (10, 0))), some (.inl x1), some (.inl x2), some (.inl x3), some (.inl x4), some (.inl x5), some (.inl x6), some (.inl x7)]) (st' := [.inl x4]) (M' := M) rfl trivial ?_
                rcases Decidable.em (x4 = 0) with c_31 | c_31
                · refine Wp.path (k := 1) [0] (C := [x4 = 0]) (pc' := 96) (ls' := [some (.inr (.inr (10, 0))), some (.inl x1), some (.inl x2), some (.inl x3), some (.inl x4), some (.inl x5), some (.inl x6), some (.inl x7)]) (st' := []) (M' := M) rfl c_31 ?_
                  refine Wp.path (k := 2) [] (C := []) (pc' := 101) (ls' := [some (.inr (.inr (10, 0))), some (.inl x1), some (.inl x2), some (.inl x3), some (.inl x4), some (.inl x5), some (.inl x6), some (.inl x7)]) (st' := [.inl 3]) (M' := M) rfl trivial ?_
                  exact k_1 _ (by rw [if_neg c_2, if_pos c_17, if_neg c_18, if_pos c_25, if_neg c_26, if_pos c_29, if_neg c_30, if_neg (not_not_intro c_31)])
                · refine Wp.path (k := 1) [1] (C := [x4 ≠ 0]) (pc' := 100) (ls' := [some (.inr (.inr (10, 0))), some (.inl x1), some (.inl x2), some (.inl x3), some (.inl x4), some (.inl x5), some (.inl x6), some (.inl x7)]) (st' := []) (M' := M) rfl c_31 ?_
                  refine Wp.path (k := 1) [] (C := []) (pc' := 101) (ls' := [some (.inr (.inr (10, 0))), some (.inl x1), some (.inl x2), some (.inl x3), some (.inl x4), some (.inl x5), some (.inl x6), some (.inl x7)]) (st' := [.inl (-1)]) (M' := M) rfl trivial ?_
                  exact k_1 _ (by rw [if_neg c_2, if_pos c_17, if_neg c_18, if_pos c_25, if_neg c_26, if_pos c_29, if_neg c_30, if_pos c_31])
/-- X10_isCorner -/
def E_1033 (x1 : Int) (x2 : Int) (x3 : Int) (M : Mm) (Q : Int → Mm → Prop) : Prop := Ev 3 1033 [.inr (.inr (10, 0)), .inl x1, .inl x2, .inl x3] M (rI Q)
theorem m_1033 {x1 : Int} {x2 : Int} {x3 : Int} {M : Mm} {Q Q1 : Int → Mm → Prop} (h : E_1033 x1 x2 x3 M Q) (k : (∀ r M1, Q r M1 → Q1 r M1)) : E_1033 x1 x2 x3 M Q1 := Ev.mono h (fun v M1 ⟨r, h1, h2⟩ => ⟨r, h1, k _ _ h2⟩)
theorem s_1033_0 {x1 : Int} {x2 : Int} {x3 : Int} {M : Mm} {Q : Int → Mm → Prop} (h : ((-2147483648 ≤ x2 - 1 ∧ x2 - 1 ≤ 2147483647) ∧ (-2147483648 ≤ x3 - 1 ∧ x3 - 1 ≤ 2147483647)) ∧ ((0 ≤ x1 ∧ x1 < 12) ∧ (∀ b : Int, b = (if isV (M.2 1116 0) x1 (x2 - 1) (x3 - 1) = 0 then 0 else 1) → (((-2147483648 ≤ x3 - 1 ∧ x3 - 1 ≤ 2147483647)) ∧ ((0 ≤ x1 ∧ x1 < 12) ∧ (∀ b_1 : Int, b_1 = (if isV (M.2 1116 0) x1 x2 (x3 - 1) = 0 then 0 else 1) → (((-2147483648 ≤ b + b_1 ∧ b + b_1 ≤ 2147483647) ∧ (-2147483648 ≤ x2 - 1 ∧ x2 - 1 ≤ 2147483647)) ∧ ((0 ≤ x1 ∧ x1 < 12) ∧ (∀ b_2 : Int, b_2 = (if isV (M.2 1116 0) x1 (x2 - 1) x3 = 0 then 0 else 1) → (((-2147483648 ≤ (b + b_1) + b_2 ∧ (b + b_1) + b_2 ≤ 2147483647)) ∧ ((0 ≤ x1 ∧ x1 < 12) ∧ (∀ b_3 : Int, b_3 = (if isV (M.2 1116 0) x1 x2 x3 = 0 then 0 else 1) → (((-2147483648 ≤ ((b + b_1) + b_2) + b_3 ∧ ((b + b_1) + b_2) + b_3 ≤ 2147483647)) ∧ (∀ x4 : Int, x4 = ((b + b_1) + b_2) + b_3 → (∀ b_4 : Int, b_4 = (if x4 = 1 then 1 else (if x4 ≠ 3 then 0 else 1)) → ((b_4 = 0 ∨ b_4 = 1) ∧ (Q b_4 M))))))))))))))))) : E_1033 x1 x2 x3 M Q := by
  show Wp 3 1033 0 [some (.inr (.inr (10, 0))), some (.inl x1), some (.inl x2), some (.inl x3), none] [] M (rI Q)
  refine Wp.path (k := 8) [] (C := [inR (x2 - 1), inR (x3 - 1)]) (pc' := 8) (ls' := [some (.inr (.inr (10, 0))), some (.inl x1), some (.inl x2), some (.inl x3), none]) (st' := [.inl (x3 - 1), .inl (x2 - 1), .inl x1, .inr (.inr (10, 0))]) (M' := M) rfl ⟨h.1.1, h.1.2⟩ ?_
  replace h := h.2
  refine Wp.call (e1026 h.1.1 h.1.2) rfl rfl (by decide) ?_
  replace h := h.2
  rintro v_ M_ ⟨eM_, ev_⟩
  rw [eM_, ev_]
  clear eM_ ev_ v_ M_
  show Wp 3 1033 11 [some (.inr (.inr (10, 0))), some (.inl x1), some (.inl x2), some (.inl x3), none] [.inl (isV (M.2 1116 0) x1 (x2 - 1) (x3 - 1))] M (rI Q)
  have k_10 : ∀ b : Int, b = (if isV (M.2 1116 0) x1 (x2 - 1) (x3 - 1) = 0 then 0 else 1) → Wp 3 1033 19 [some (.inr (.inr (10, 0))), some (.inl x1), some (.inl x2), some (.inl x3), none] [.inl b] M (rI Q) := by
    intro b e_b
    replace h := h b e_b
    refine Wp.path (k := 6) [] (C := [inR (x3 - 1)]) (pc' := 25) (ls' := [some (.inr (.inr (10, 0))), some (.inl x1), some (.inl x2), some (.inl x3), none]) (st' := [.inl (x3 - 1), .inl x2, .inl x1, .inr (.inr (10, 0)), .inl b]) (M' := M) rfl h.1 ?_
    replace h := h.2
    refine Wp.call (e1026 h.1.1 h.1.2) rfl rfl (by decide) ?_
    replace h := h.2
    rintro v_ M_ ⟨eM_, ev_⟩
    rw [eM_, ev_]
    clear eM_ ev_ v_ M_
    show Wp 3 1033 28 [some (.inr (.inr (10, 0))), some (.inl x1), some (.inl x2), some (.inl x3), none] [.inl (isV (M.2 1116 0) x1 x2 (x3 - 1)), .inl b] M (rI Q)
    have k_8 : ∀ b_1 : Int, b_1 = (if isV (M.2 1116 0) x1 x2 (x3 - 1) = 0 then 0 else 1) → Wp 3 1033 36 [some (.inr (.inr (10, 0))), some (.inl x1), some (.inl x2), some (.inl x3), none] [.inl b_1, .inl b] M (rI Q) := by
      intro b_1 e_b_1
      replace h := h b_1 e_b_1
      refine Wp.path (k := 7) [] (C := [inR (b + b_1), inR (x2 - 1)]) (pc' := 43) (ls' := [some (.inr (.inr (10, 0))), some (.inl x1), some (.inl x2), some (.inl x3), none]) (st' := [.inl x3, .inl (x2 - 1), .inl x1, .inr (.inr (10, 0)), .inl (b + b_1)]) (M' := M) rfl ⟨h.1.1, h.1.2⟩ ?_
      replace h := h.2
      refine Wp.call (e1026 h.1.1 h.1.2) rfl rfl (by decide) ?_
      replace h := h.2
      rintro v_ M_ ⟨eM_, ev_⟩
      rw [eM_, ev_]
      clear eM_ ev_ v_ M_
      show Wp 3 1033 46 [some (.inr (.inr (10, 0))), some (.inl x1), some (.inl x2), some (.inl x3), none] [.inl (isV (M.2 1116 0) x1 (x2 - 1) x3), .inl (b + b_1)] M (rI Q)
      have k_6 : ∀ b_2 : Int, b_2 = (if isV (M.2 1116 0) x1 (x2 - 1) x3 = 0 then 0 else 1) → Wp 3 1033 54 [some (.inr (.inr (10, 0))), some (.inl x1), some (.inl x2), some (.inl x3), none] [.inl b_2, .inl (b + b_1)] M (rI Q) := by
        intro b_2 e_b_2
        replace h := h b_2 e_b_2
        refine Wp.path (k := 5) [] (C := [inR ((b + b_1) + b_2)]) (pc' := 59) (ls' := [some (.inr (.inr (10, 0))), some (.inl x1), some (.inl x2), some (.inl x3), none]) (st' := [.inl x3, .inl x2, .inl x1, .inr (.inr (10, 0)), .inl ((b + b_1) + b_2)]) (M' := M) rfl h.1 ?_
        replace h := h.2
        refine Wp.call (e1026 h.1.1 h.1.2) rfl rfl (by decide) ?_
        replace h := h.2
        rintro v_ M_ ⟨eM_, ev_⟩
        rw [eM_, ev_]
        clear eM_ ev_ v_ M_
        show Wp 3 1033 62 [some (.inr (.inr (10, 0))), some (.inl x1), some (.inl x2), some (.inl x3), none] [.inl (isV (M.2 1116 0) x1 x2 x3), .inl ((b + b_1) + b_2)] M (rI Q)
        have k_4 : ∀ b_3 : Int, b_3 = (if isV (M.2 1116 0) x1 x2 x3 = 0 then 0 else 1) → Wp 3 1033 70 [some (.inr (.inr (10, 0))), some (.inl x1), some (.inl x2), some (.inl x3), none] [.inl b_3, .inl ((b + b_1) + b_2)] M (rI Q) := by
          intro b_3 e_b_3
          replace h := h b_3 e_b_3
          refine Wp.path (k := 2) [] (C := [inR (((b + b_1) + b_2) + b_3)]) (pc' := 73) (ls' := [some (.inr (.inr (10, 0))), some (.inl x1), some (.inl x2), some (.inl x3), some (.inl (((b + b_1) + b_2) + b_3))]) (st' := []) (M' := M) rfl h.1 ?_
          replace h := h.2
          refine Bd (P := fun x4 : Int => Wp 3 1033 73 [some (.inr (.inr (10, 0))), some (.inl x1), some (.inl x2), some (.inl x3), some (.inl x4)] [] M (rI Q)) ?_
          intro x4 e_x4
          replace h := h x4 e_x4
          refine Wp.path (k := 2) [] (C := []) (pc' := 76) (ls' := [some (.inr (.inr (10, 0))), some (.inl x1), some (.inl x2), some (.inl x3), some (.inl x4)]) (st' := [.inl 1, .inl x4]) (M' := M) rfl trivial ?_
          have k_1 : ∀ b_4 : Int, b_4 = (if x4 = 1 then 1 else (if x4 ≠ 3 then 0 else 1)) → Wp 3 1033 90 [some (.inr (.inr (10, 0))), some (.inl x1), some (.inl x2), some (.inl x3), some (.inl x4)] [.inl b_4] M (rI Q) := by
            intro b_4 e_b_4
            replace h := h b_4 e_b_4
            exact Wp.ret (by rcases h.1 with e_r | e_r <;> rw [e_r] <;> rfl) ⟨_, rfl, h.2⟩
          clear h
          rcases Decidable.em (x4 = 1) with c_2 | c_2
          · refine Wp.path (k := 1) [1] (C := [x4 = 1]) (pc' := 85) (ls' := [some (.inr (.inr (10, 0))), some (.inl x1), some (.inl x2), some (.inl x3), some (.inl x4)]) (st' := []) (M' := M) rfl c_2 ?_
            refine Wp.path (k := 2) [] (C := []) (pc' := 90) (ls' := [some (.inr (.inr (10, 0))), some (.inl x1), some (.inl x2), some (.inl x3), some (.inl x4)]) (st' := [.inl 1]) (M' := M) rfl trivial ?_
            exact k_1 _ (by rw [if_pos c_2])
          · refine Wp.path (k := 1) [0] (C := [x4 ≠ 1]) (pc' := 79) (ls' := [some (.inr (.inr (10, 0))), some (.inl x1), some (.inl x2), some (.inl x3), some (.inl x4)]) (st' := []) (M' := M) rfl c_2 ?_
            refine Wp.path (k := 2) [] (C := []) (pc' := 82) (ls' := [some (.inr (.inr (10, 0))), some (.inl x1), some (.inl x2), some (.inl x3), some (.inl x4)]) (st' := [.inl 3, .inl x4]) (M' := M) rfl trivial ?_
            rcases Decidable.em (x4 = 3) with c_3 | c_3
            · refine Wp.path (k := 1) [0] (C := [x4 = 3]) (pc' := 85) (ls' := [some (.inr (.inr (10, 0))), some (.inl x1), some (.inl x2), some (.inl x3), some (.inl x4)]) (st' := []) (M' := M) rfl c_3 ?_
              refine Wp.path (k := 2) [] (C := []) (pc' := 90) (ls' := [some (.inr (.inr (10, 0))), some (.inl x1), some (.inl x2), some (.inl x3), some (.inl x4)]) (st' := [.inl 1]) (M' := M) rfl trivial ?_
              exact k_1 _ (by rw [if_neg c_2, if_neg (not_not_intro c_3)])
            · refine Wp.path (k := 1) [1] (C := [x4 ≠ 3]) (pc' := 89) (ls' := [some (.inr (.inr (10, 0))), some (.inl x1), some (.inl x2), some (.inl x3), some (.inl x4)]) (st' := []) (M' := M) rfl c_3 ?_
              refine Wp.path (k := 1) [] (C := []) (pc' := 90) (ls' := [some (.inr (.inr (10, 0))), some (.inl x1), some (.inl x2), some (.inl x3), some (.inl x4)]) (st' := [.inl 0]) (M' := M) rfl trivial ?_
              exact k_1 _ (by rw [if_neg c_2, if_pos c_3])
        clear h
        rcases Decidable.em (isV (M.2 1116 0) x1 x2 x3 = 0) with c_5 | c_5
        · refine Wp.path (k := 1) [1] (C := [isV (M.2 1116 0) x1 x2 x3 = 0]) (pc' := 69) (ls' := [some (.inr (.inr (10, 0))), some (.inl x1), some (.inl x2), some (.inl x3), none]) (st' := [.inl ((b + b_1) + b_2)]) (M' := M) rfl c_5 ?_
          refine Wp.path (k := 1) [] (C := []) (pc' := 70) (ls' := [some (.inr (.inr (10, 0))), some (.inl x1), some (.inl x2), some (.inl x3), none]) (st' := [.inl 0, .inl ((b + b_1) + b_2)]) (M' := M) rfl trivial ?_
          exact k_4 _ (by rw [if_pos c_5])
        · refine Wp.path (k := 1) [0] (C := [isV (M.2 1116 0) x1 x2 x3 ≠ 0]) (pc' := 65) (ls' := [some (.inr (.inr (10, 0))), some (.inl x1), some (.inl x2), some (.inl x3), none]) (st' := [.inl ((b + b_1) + b_2)]) (M' := M) rfl c_5 ?_
          refine Wp.path (k := 2) [] (C := []) (pc' := 70) (ls' := [some (.inr (.inr (10, 0))), some (.inl x1), some (.inl x2), some (.inl x3), none]) (st' := [.inl 1, .inl ((b + b_1) + b_2)]) (M' := M) rfl trivial ?_
          exact k_4 _ (by rw [if_neg c_5])
      clear h
      rcases Decidable.em (isV (M.2 1116 0) x1 (x2 - 1) x3 = 0) with c_7 | c_7
      · refine Wp.path (k := 1) [1] (C := [isV (M.2 1116 0) x1 (x2 - 1) x3 = 0]) (pc' := 53) (ls' := [some (.inr (.inr (10, 0))), some (.inl x1), some (.inl x2), some (.inl x3), none]) (st' := [.inl (b + b_1)]) (M' := M) rfl c_7 ?_
        refine Wp.path (k := 1) [] (C := []) (pc' := 54) (ls' := [some (.inr (.inr (10, 0))), some (.inl x1), some (.inl x2), some (.inl x3), none]) (st' := [.inl 0, .inl (b + b_1)]) (M' := M) rfl trivial ?_
        exact k_6 _ (by rw [if_pos c_7])
      · refine Wp.path (k := 1) [0] (C := [isV (M.2 1116 0) x1 (x2 - 1) x3 ≠ 0]) (pc' := 49) (ls' := [some (.inr (.inr (10, 0))), some (.inl x1), some (.inl x2), some (.inl x3), none]) (st' := [.inl (b + b_1)]) (M' := M) rfl c_7 ?_
        refine Wp.path (k := 2) [] (C := []) (pc' := 54) (ls' := [some (.inr (.inr (10, 0))), some (.inl x1), some (.inl x2), some (.inl x3), none]) (st' := [.inl 1, .inl (b + b_1)]) (M' := M) rfl trivial ?_
        exact k_6 _ (by rw [if_neg c_7])
    clear h
    rcases Decidable.em (isV (M.2 1116 0) x1 x2 (x3 - 1) = 0) with c_9 | c_9
    · refine Wp.path (k := 1) [1] (C := [isV (M.2 1116 0) x1 x2 (x3 - 1) = 0]) (pc' := 35) (ls' := [some (.inr (.inr (10, 0))), some (.inl x1), some (.inl x2), some (.inl x3), none]) (st' := [.inl b]) (M' := M) rfl c_9 ?_
      refine Wp.path (k := 1) [] (C := []) (pc' := 36) (ls' := [some (.inr (.inr (10, 0))), some (.inl x1), some (.inl x2), some (.inl x3), none]) (st' := [.inl 0, .inl b]) (M' := M) rfl trivial ?_
      exact k_8 _ (by rw [if_pos c_9])
    · refine Wp.path (k := 1) [0] (C := [isV (M.2 1116 0) x1 x2 (x3 - 1) ≠ 0]) (pc' := 31) (ls' := [some (.inr (.inr (10, 0))), some (.inl x1), some (.inl x2), some (.inl x3), none]) (st' := [.inl b]) (M' := M) rfl c_9 ?_
      refine Wp.path (k := 2) [] (C := []) (pc' := 36) (ls' := [some (.inr (.inr (10, 0))), some (.inl x1), some (.inl x2), some (.inl x3), none]) (st' := [.inl 1, .inl b]) (M' := M) rfl trivial ?_
      exact k_8 _ (by rw [if_neg c_9])
  clear h
  rcases Decidable.em (isV (M.2 1116 0) x1 (x2 - 1) (x3 - 1) = 0) with c_11 | c_11
  · refine Wp.path (k := 1) [1] (C := [isV (M.2 1116 0) x1 (x2 - 1) (x3 - 1) = 0]) (pc' := 18) (ls' := [some (.inr (.inr (10, 0))), some (.inl x1), some (.inl x2), some (.inl x3), none]) (st' := []) (M' := M) rfl c_11 ?_
    refine Wp.path (k := 1) [] (C := []) (pc' := 19) (ls' := [some (.inr (.inr (10, 0))), some (.inl x1), some (.inl x2), some (.inl x3), none]) (st' := [.inl 0]) (M' := M) rfl trivial ?_
    exact k_10 _ (by rw [if_pos c_11])
  · refine Wp.path (k := 1) [0] (C := [isV (M.2 1116 0) x1 (x2 - 1) (x3 - 1) ≠ 0]) (pc' := 14) (ls' := [some (.inr (.inr (10, 0))), some (.inl x1), some (.inl x2), some (.inl x3), none]) (st' := []) (M' := M) rfl c_11 ?_
    refine Wp.path (k := 2) [] (C := []) (pc' := 19) (ls' := [some (.inr (.inr (10, 0))), some (.inl x1), some (.inl x2), some (.inl x3), none]) (st' := [.inl 1]) (M' := M) rfl trivial ?_
    exact k_10 _ (by rw [if_neg c_11])
theorem o1_bd (v : Int) : 0 ≤ o1 v ∧ o1 v ≤ 1 := by
  unfold o1
  split <;> omega
theorem e207 {i : Nat} {x y : Int} {M : Mm} (hx : -1000 ≤ x) (hx1 : x ≤ 1000) (hy : -1000 ≤ y) (hy1 : y ≤ 1000) : Ev 1 207 [.inr (.inr (3, i)), .inl x, .inl y] M (fun v M' => M' = M ∧ v = some (.inl (arV (M.2 401 i) x y))) := by
  have k : E_207 i x y M (fun r M1 => M1 = M ∧ r = arV (M.2 401 i) x y) := by
    have o1b := o1_bd (covV (M.2 401 i) (x - 1) (y - 1))
    have o2b := o1_bd (covV (M.2 401 i) x (y - 1))
    have o3b := o1_bd (covV (M.2 401 i) (x - 1) y)
    have o4b := o1_bd (covV (M.2 401 i) x y)
    refine s_207_0 ⟨⟨by omega, by omega⟩, fun b (e : b = o1 _) => ⟨by omega, fun b1 (e1 : b1 = o1 _) => ⟨⟨by omega, by omega⟩, fun b2 (e2 : b2 = o1 _) => ⟨by omega, fun b3 (e3 : b3 = o1 _) => ⟨by omega, rfl, by rw [e, e1, e2, e3]; rfl⟩⟩⟩⟩⟩
  exact Ev.mono k (fun v M' ⟨r, h1, h2, h3⟩ => ⟨h2, by rw [h1, h3]⟩)
theorem e1032 {p x y : Int} {M : Mm} (h0 : 0 ≤ p) (h1 : p < 12) (hx : -1000 ≤ x) (hx1 : x ≤ 1000) (hy : -1000 ≤ y) (hy1 : y ≤ 1000) : Ev 3 1032 [.inr (.inr (10, 0)), .inl p, .inl x, .inl y] M (fun v M' => M' = M ∧ v = some (.inl (lvV (isV (M.2 1116 0) p (x - 1) (y - 1)) (isV (M.2 1116 0) p x (y - 1)) (isV (M.2 1116 0) p (x - 1) y) (isV (M.2 1116 0) p x y)))) := by
  have k : E_1032 p x y M (fun r M1 => M1 = M ∧ r = lvV (isV (M.2 1116 0) p (x - 1) (y - 1)) (isV (M.2 1116 0) p x (y - 1)) (isV (M.2 1116 0) p (x - 1) y) (isV (M.2 1116 0) p x y)) := by
    refine s_1032_0 ⟨⟨by omega, by omega⟩, ⟨h0, h1⟩, fun a ea => ⟨by omega, ⟨h0, h1⟩, fun b eb => ⟨by omega, ⟨h0, h1⟩, fun c ec => ⟨⟨h0, h1⟩, fun d ed => fun r er => ⟨rfl, ?_⟩⟩⟩⟩⟩
    rw [← ea, ← eb, ← ec, ← ed, er]
    unfold lvV
    (repeat' split) <;> first | rfl | (exfalso; omega)
  exact Ev.mono k (fun v M' ⟨r, h1, h2, h3⟩ => ⟨h2, by rw [h1, h3]⟩)
theorem e1033 {p x y : Int} {M : Mm} (h0 : 0 ≤ p) (h1 : p < 12) (hx : -1000 ≤ x) (hx1 : x ≤ 1000) (hy : -1000 ≤ y) (hy1 : y ≤ 1000) : Ev 3 1033 [.inr (.inr (10, 0)), .inl p, .inl x, .inl y] M (fun v M' => M' = M ∧ v = some (.inl (crV (isV (M.2 1116 0) p (x - 1) (y - 1)) (isV (M.2 1116 0) p x (y - 1)) (isV (M.2 1116 0) p (x - 1) y) (isV (M.2 1116 0) p x y)))) := by
  have k : E_1033 p x y M (fun r M1 => M1 = M ∧ r = crV (isV (M.2 1116 0) p (x - 1) (y - 1)) (isV (M.2 1116 0) p x (y - 1)) (isV (M.2 1116 0) p (x - 1) y) (isV (M.2 1116 0) p x y)) := by
    have i1 := isV_p (M.2 1116 0) p (x - 1) (y - 1)
    have i2 := isV_p (M.2 1116 0) p x (y - 1)
    have i3 := isV_p (M.2 1116 0) p (x - 1) y
    have i4 := isV_p (M.2 1116 0) p x y
    have o1b := o1_bd (isV (M.2 1116 0) p (x - 1) (y - 1))
    have o2b := o1_bd (isV (M.2 1116 0) p x (y - 1))
    have o3b := o1_bd (isV (M.2 1116 0) p (x - 1) y)
    have o4b := o1_bd (isV (M.2 1116 0) p x y)
    refine s_1033_0 ⟨⟨by omega, by omega⟩, ⟨h0, h1⟩, fun a (ea : a = o1 _) => ⟨by omega, ⟨h0, h1⟩, fun b (eb : b = o1 _) => ⟨⟨by omega, by omega⟩, ⟨h0, h1⟩, fun c (ec : c = o1 _) => ⟨by omega, ⟨h0, h1⟩, fun d (ed : d = o1 _) => ⟨by omega, fun s es => fun r er => ⟨by rw [er]; (repeat' split) <;> first | exact Or.inl rfl | exact Or.inr rfl, rfl, ?_⟩⟩⟩⟩⟩⟩
    rw [er]
    unfold o1 at ea eb ec ed
    unfold crV
    have e : s = isV (M.2 1116 0) p (x - 1) (y - 1) + isV (M.2 1116 0) p x (y - 1) + isV (M.2 1116 0) p (x - 1) y + isV (M.2 1116 0) p x y := by
      rw [es, ea, eb, ec, ed]
      rcases i1 with i1 | i1 <;> rcases i2 with i2 | i2 <;> rcases i3 with i3 | i3 <;> rcases i4 with i4 | i4 <;> rw [i1, i2, i3, i4] <;> rfl
    rw [← e]
    (repeat' split) <;> first | rfl | (exfalso; omega)
  exact Ev.mono k (fun v M' ⟨r, h1, h2, h3⟩ => ⟨h2, by rw [h1, h3]⟩)

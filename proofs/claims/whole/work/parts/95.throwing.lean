/-! printed contracts of the methods that may throw -/
/-- X9_rectangle -/
def X_901 (x1 : Int) (x2 : Int) (x3 : Int) (x4 : Int) (x5 : Int) (M : Mm) (Q : Int → Mm → Prop) (T : Nat → Mm → Prop) : Prop := Xv 3 901 [.inr (.inr (9, 0)), .inl x1, .inl x2, .inl x3, .inl x4, .inl x5] M (xI Q T)
theorem x_901 {x1 : Int} {x2 : Int} {x3 : Int} {x4 : Int} {x5 : Int} {M : Mm} {Q : Int → Mm → Prop} {T : Nat → Mm → Prop} (h : ((x1 < 0 → (T 1 M)) ∧ (0 ≤ x1 → ((x1 ≤ 2 → ((isCellV x2 x3 = 0 → (T 3 M)) ∧ (isCellV x2 x3 ≠ 0 → ((x4 < 1 → (T 3 M)) ∧ (1 ≤ x4 → (((-2147483648 ≤ 12 - x2 ∧ 12 - x2 ≤ 2147483647)) ∧ ((12 - x2 < x4 → (T 3 M)) ∧ (x4 ≤ 12 - x2 → ((x5 < 1 → (T 3 M)) ∧ (1 ≤ x5 → (((-2147483648 ≤ 12 - x3 ∧ 12 - x3 ≤ 2147483647)) ∧ ((x5 ≤ 12 - x3 → (E_405 0 x1 x2 x3 x4 x5 M (fun M1 : Mm => (E_934 M1 (fun M1_1 : Mm => (E_402 0 M1_1 (fun (r : Int) (M1_2 : Mm) => (Q r M1_2)))))))) ∧ (12 - x3 < x5 → (T 3 M)))))))))))))) ∧ (2 < x1 → (T 1 M)))))) : X_901 x1 x2 x3 x4 x5 M Q T := by
  show Wx 3 901 0 [some (.inr (.inr (9, 0))), some (.inl x1), some (.inl x2), some (.inl x3), some (.inl x4), some (.inl x5)] [] M (xI Q T)
  refine Wx.path (k := 1) [] (C := []) (pc' := 1) (ls' := [some (.inr (.inr (9, 0))), some (.inl x1), some (.inl x2), some (.inl x3), some (.inl x4), some (.inl x5)]) (st' := [.inl x1]) (M' := M) rfl trivial ?_
  rcases Int.lt_or_le (x1) (0) with c_1 | c_1
  · replace h := h.1 c_1
    refine Wx.path (k := 1) [1] (C := [x1 < 0]) (pc' := 9) (ls' := [some (.inr (.inr (9, 0))), some (.inl x1), some (.inl x2), some (.inl x3), some (.inl x4), some (.inl x5)]) (st' := []) (M' := M) rfl c_1 ?_
    exact Wx.thr rfl h
  · replace h := h.2 c_1
    refine Wx.path (k := 1) [0] (C := [0 ≤ x1]) (pc' := 4) (ls' := [some (.inr (.inr (9, 0))), some (.inl x1), some (.inl x2), some (.inl x3), some (.inl x4), some (.inl x5)]) (st' := []) (M' := M) rfl c_1 ?_
    refine Wx.path (k := 2) [] (C := []) (pc' := 6) (ls' := [some (.inr (.inr (9, 0))), some (.inl x1), some (.inl x2), some (.inl x3), some (.inl x4), some (.inl x5)]) (st' := [.inl 2, .inl x1]) (M' := M) rfl trivial ?_
    rcases Int.lt_or_le (2) (x1) with c_2 | c_2
    · replace h := h.2 c_2
      refine Wx.path (k := 1) [0] (C := [2 < x1]) (pc' := 9) (ls' := [some (.inr (.inr (9, 0))), some (.inl x1), some (.inl x2), some (.inl x3), some (.inl x4), some (.inl x5)]) (st' := []) (M' := M) rfl c_2 ?_
      exact Wx.thr rfl h
    · replace h := h.1 c_2
      refine Wx.path (k := 1) [1] (C := [x1 ≤ 2]) (pc' := 19) (ls' := [some (.inr (.inr (9, 0))), some (.inl x1), some (.inl x2), some (.inl x3), some (.inl x4), some (.inl x5)]) (st' := []) (M' := M) rfl c_2 ?_
      refine Wx.path (k := 2) [] (C := []) (pc' := 21) (ls' := [some (.inr (.inr (9, 0))), some (.inl x1), some (.inl x2), some (.inl x3), some (.inl x4), some (.inl x5)]) (st' := [.inl x3, .inl x2]) (M' := M) rfl trivial ?_
      refine Wx.call (e935) rfl rfl (by decide) ?_
      rintro v_ M_ ⟨eM_, ev_⟩
      rw [eM_, ev_]
      clear eM_ ev_ v_ M_
      show Wx 3 901 24 [some (.inr (.inr (9, 0))), some (.inl x1), some (.inl x2), some (.inl x3), some (.inl x4), some (.inl x5)] [.inl (isCellV x2 x3)] M (xI Q T)
      rcases Decidable.em (isCellV x2 x3 = 0) with c_3 | c_3
      · replace h := h.1 c_3
        refine Wx.path (k := 1) [1] (C := [isCellV x2 x3 = 0]) (pc' := 57) (ls' := [some (.inr (.inr (9, 0))), some (.inl x1), some (.inl x2), some (.inl x3), some (.inl x4), some (.inl x5)]) (st' := []) (M' := M) rfl c_3 ?_
        exact Wx.thr rfl h
      · replace h := h.2 c_3
        refine Wx.path (k := 1) [0] (C := [isCellV x2 x3 ≠ 0]) (pc' := 27) (ls' := [some (.inr (.inr (9, 0))), some (.inl x1), some (.inl x2), some (.inl x3), some (.inl x4), some (.inl x5)]) (st' := []) (M' := M) rfl c_3 ?_
        refine Wx.path (k := 2) [] (C := []) (pc' := 30) (ls' := [some (.inr (.inr (9, 0))), some (.inl x1), some (.inl x2), some (.inl x3), some (.inl x4), some (.inl x5)]) (st' := [.inl 1, .inl x4]) (M' := M) rfl trivial ?_
        rcases Int.lt_or_le (x4) (1) with c_4 | c_4
        · replace h := h.1 c_4
          refine Wx.path (k := 1) [1] (C := [x4 < 1]) (pc' := 57) (ls' := [some (.inr (.inr (9, 0))), some (.inl x1), some (.inl x2), some (.inl x3), some (.inl x4), some (.inl x5)]) (st' := []) (M' := M) rfl c_4 ?_
          exact Wx.thr rfl h
        · replace h := h.2 c_4
          refine Wx.path (k := 1) [0] (C := [1 ≤ x4]) (pc' := 33) (ls' := [some (.inr (.inr (9, 0))), some (.inl x1), some (.inl x2), some (.inl x3), some (.inl x4), some (.inl x5)]) (st' := []) (M' := M) rfl c_4 ?_
          refine Wx.path (k := 4) [] (C := [inR (12 - x2)]) (pc' := 39) (ls' := [some (.inr (.inr (9, 0))), some (.inl x1), some (.inl x2), some (.inl x3), some (.inl x4), some (.inl x5)]) (st' := [.inl (12 - x2), .inl x4]) (M' := M) rfl h.1 ?_
          replace h := h.2
          rcases Int.lt_or_le (12 - x2) (x4) with c_5 | c_5
          · replace h := h.1 c_5
            refine Wx.path (k := 1) [1] (C := [12 - x2 < x4]) (pc' := 57) (ls' := [some (.inr (.inr (9, 0))), some (.inl x1), some (.inl x2), some (.inl x3), some (.inl x4), some (.inl x5)]) (st' := []) (M' := M) rfl c_5 ?_
            exact Wx.thr rfl h
          · replace h := h.2 c_5
            refine Wx.path (k := 1) [0] (C := [x4 ≤ 12 - x2]) (pc' := 42) (ls' := [some (.inr (.inr (9, 0))), some (.inl x1), some (.inl x2), some (.inl x3), some (.inl x4), some (.inl x5)]) (st' := []) (M' := M) rfl c_5 ?_
            refine Wx.path (k := 2) [] (C := []) (pc' := 45) (ls' := [some (.inr (.inr (9, 0))), some (.inl x1), some (.inl x2), some (.inl x3), some (.inl x4), some (.inl x5)]) (st' := [.inl 1, .inl x5]) (M' := M) rfl trivial ?_
            rcases Int.lt_or_le (x5) (1) with c_6 | c_6
            · replace h := h.1 c_6
              refine Wx.path (k := 1) [1] (C := [x5 < 1]) (pc' := 57) (ls' := [some (.inr (.inr (9, 0))), some (.inl x1), some (.inl x2), some (.inl x3), some (.inl x4), some (.inl x5)]) (st' := []) (M' := M) rfl c_6 ?_
              exact Wx.thr rfl h
            · replace h := h.2 c_6
              refine Wx.path (k := 1) [0] (C := [1 ≤ x5]) (pc' := 48) (ls' := [some (.inr (.inr (9, 0))), some (.inl x1), some (.inl x2), some (.inl x3), some (.inl x4), some (.inl x5)]) (st' := []) (M' := M) rfl c_6 ?_
              refine Wx.path (k := 4) [] (C := [inR (12 - x3)]) (pc' := 54) (ls' := [some (.inr (.inr (9, 0))), some (.inl x1), some (.inl x2), some (.inl x3), some (.inl x4), some (.inl x5)]) (st' := [.inl (12 - x3), .inl x5]) (M' := M) rfl h.1 ?_
              replace h := h.2
              rcases Int.lt_or_le (12 - x3) (x5) with c_7 | c_7
              · replace h := h.2 c_7
                refine Wx.path (k := 1) [0] (C := [12 - x3 < x5]) (pc' := 57) (ls' := [some (.inr (.inr (9, 0))), some (.inl x1), some (.inl x2), some (.inl x3), some (.inl x4), some (.inl x5)]) (st' := []) (M' := M) rfl c_7 ?_
                exact Wx.thr rfl h
              · replace h := h.1 c_7
                refine Wx.path (k := 1) [1] (C := [x5 ≤ 12 - x3]) (pc' := 67) (ls' := [some (.inr (.inr (9, 0))), some (.inl x1), some (.inl x2), some (.inl x3), some (.inl x4), some (.inl x5)]) (st' := []) (M' := M) rfl c_7 ?_
                refine Wx.path (k := 7) [] (C := []) (pc' := 78) (ls' := [some (.inr (.inr (9, 0))), some (.inl x1), some (.inl x2), some (.inl x3), some (.inl x4), some (.inl x5)]) (st' := [.inl x5, .inl x4, .inl x3, .inl x2, .inl x1, .inr (.inr (4, 0))]) (M' := M) rfl trivial ?_
                refine Wx.call h rfl rfl (by decide) ?_
                rintro _ M1 ⟨rfl, h⟩
                show Wx 3 901 81 [some (.inr (.inr (9, 0))), some (.inl x1), some (.inl x2), some (.inl x3), some (.inl x4), some (.inl x5)] [] M1 (xI Q T)
                refine Wx.path (k := 1) [] (C := []) (pc' := 82) (ls' := [some (.inr (.inr (9, 0))), some (.inl x1), some (.inl x2), some (.inl x3), some (.inl x4), some (.inl x5)]) (st' := [.inr (.inr (9, 0))]) (M' := M1) rfl trivial ?_
                refine Wx.call h rfl rfl (by decide) ?_
                rintro _ M1_1 ⟨rfl, h⟩
                show Wx 3 901 85 [some (.inr (.inr (9, 0))), some (.inl x1), some (.inl x2), some (.inl x3), some (.inl x4), some (.inl x5)] [] M1_1 (xI Q T)
                refine Wx.path (k := 2) [] (C := []) (pc' := 89) (ls' := [some (.inr (.inr (9, 0))), some (.inl x1), some (.inl x2), some (.inl x3), some (.inl x4), some (.inl x5)]) (st' := [.inr (.inr (4, 0))]) (M' := M1_1) rfl trivial ?_
                refine Wx.call h rfl rfl (by decide) ?_
                rintro _ M1_2 ⟨r, rfl, h⟩
                show Wx 3 901 92 [some (.inr (.inr (9, 0))), some (.inl x1), some (.inl x2), some (.inl x3), some (.inl x4), some (.inl x5)] [.inl r] M1_2 (xI Q T)
                exact Wx.ret rfl ⟨_, rfl, h⟩
/-- X9_append -/
def X_903 (x1 : Int) (M : Mm) (Q : Int → Mm → Prop) (T : Nat → Mm → Prop) : Prop := Xv 1 903 [.inr (.inr (9, 0)), .inl x1] M (xI Q T)
theorem x_903 {x1 : Int} {M : Mm} {Q : Int → Mm → Prop} {T : Nat → Mm → Prop} (h : (E_601 x1 M (fun (r : Int) (M1 : Mm) => ((r ≠ 0 → (E_602 x1 M1 (fun (r_1 : Int) (M1_1 : Mm) => ((-2147483648 ≤ (M1.1 6 0 3) + r_1 ∧ (M1.1 6 0 3) + r_1 ≤ 2147483647)) ∧ (((M1.1 6 0 3) + r_1 ≤ 60 → (E_603 x1 M1_1 (fun M1_2 : Mm => (Q (M1_2.1 6 0 3) M1_2)))) ∧ (60 < (M1.1 6 0 3) + r_1 → (T 2 M1_1)))))) ∧ (r = 0 → (T 1 M1)))))) : X_903 x1 M Q T := by
  show Wx 1 903 0 [some (.inr (.inr (9, 0))), some (.inl x1)] [] M (xI Q T)
  refine Wx.path (k := 1) [] (C := []) (pc' := 1) (ls' := [some (.inr (.inr (9, 0))), some (.inl x1)]) (st' := [.inl x1]) (M' := M) rfl trivial ?_
  refine Wx.call h rfl rfl (by decide) ?_
  rintro _ M1 ⟨r, rfl, h⟩
  show Wx 1 903 4 [some (.inr (.inr (9, 0))), some (.inl x1)] [.inl r] M1 (xI Q T)
  rcases Decidable.em (r = 0) with c_1 | c_1
  · replace h := h.2 c_1
    refine Wx.path (k := 1) [0] (C := [r = 0]) (pc' := 7) (ls' := [some (.inr (.inr (9, 0))), some (.inl x1)]) (st' := []) (M' := M1) rfl c_1 ?_
    exact Wx.thr rfl h
  · replace h := h.1 c_1
    refine Wx.path (k := 1) [1] (C := [r ≠ 0]) (pc' := 17) (ls' := [some (.inr (.inr (9, 0))), some (.inl x1)]) (st' := []) (M' := M1) rfl c_1 ?_
    refine Wx.path (k := 4) [] (C := []) (pc' := 25) (ls' := [some (.inr (.inr (9, 0))), some (.inl x1)]) (st' := [.inl x1, .inl (M1.1 6 0 3)]) (M' := M1) rfl trivial ?_
    refine Wx.call h rfl rfl (by decide) ?_
    rintro _ M1_1 ⟨r_1, rfl, h⟩
    show Wx 1 903 28 [some (.inr (.inr (9, 0))), some (.inl x1)] [.inl r_1, .inl (M1.1 6 0 3)] M1_1 (xI Q T)
    refine Wx.path (k := 2) [] (C := [inR ((M1.1 6 0 3) + r_1)]) (pc' := 31) (ls' := [some (.inr (.inr (9, 0))), some (.inl x1)]) (st' := [.inl 60, .inl ((M1.1 6 0 3) + r_1)]) (M' := M1_1) rfl h.1 ?_
    replace h := h.2
    rcases Int.lt_or_le (60) ((M1.1 6 0 3) + r_1) with c_2 | c_2
    · replace h := h.2 c_2
      refine Wx.path (k := 1) [0] (C := [60 < (M1.1 6 0 3) + r_1]) (pc' := 34) (ls' := [some (.inr (.inr (9, 0))), some (.inl x1)]) (st' := []) (M' := M1_1) rfl c_2 ?_
      exact Wx.thr rfl h
    · replace h := h.1 c_2
      refine Wx.path (k := 1) [1] (C := [(M1.1 6 0 3) + r_1 ≤ 60]) (pc' := 44) (ls' := [some (.inr (.inr (9, 0))), some (.inl x1)]) (st' := []) (M' := M1_1) rfl c_2 ?_
      refine Wx.path (k := 3) [] (C := []) (pc' := 49) (ls' := [some (.inr (.inr (9, 0))), some (.inl x1)]) (st' := [.inl x1, .inr (.inr (6, 0))]) (M' := M1_1) rfl trivial ?_
      refine Wx.call h rfl rfl (by decide) ?_
      rintro _ M1_2 ⟨rfl, h⟩
      show Wx 1 903 52 [some (.inr (.inr (9, 0))), some (.inl x1)] [] M1_2 (xI Q T)
      refine Wx.path (k := 3) [] (C := []) (pc' := 59) (ls' := [some (.inr (.inr (9, 0))), some (.inl x1)]) (st' := [.inl (M1_2.1 6 0 3)]) (M' := M1_2) rfl trivial ?_
      exact Wx.ret rfl ⟨_, rfl, h⟩
/-- X9_execute -/
def X_904 (M : Mm) (Q : Int → Mm → Prop) (T : Nat → Mm → Prop) : Prop := Xv 6 904 [.inr (.inr (9, 0))] M (xI Q T)
theorem x_904 {M : Mm} {Q : Int → Mm → Prop} {T : Nat → Mm → Prop} (h : (E_604 M (fun (r : Int) (M1 : Mm) => ((r ≠ 0 → (E_612 0 M1 (fun M1_1 : Mm => (E_934 M1_1 (fun M1_2 : Mm => (Q (M1_2.1 6 0 5) M1_2)))))) ∧ (r = 0 → (T 1 M1)))))) : X_904 M Q T := by
  show Wx 6 904 0 [some (.inr (.inr (9, 0)))] [] M (xI Q T)
  refine Wx.path (k := 2) [] (C := []) (pc' := 4) (ls' := [some (.inr (.inr (9, 0)))]) (st' := [.inr (.inr (6, 0))]) (M' := M) rfl trivial ?_
  refine Wx.call h rfl rfl (by decide) ?_
  rintro _ M1 ⟨r, rfl, h⟩
  show Wx 6 904 7 [some (.inr (.inr (9, 0)))] [.inl r] M1 (xI Q T)
  rcases Decidable.em (r = 0) with c_1 | c_1
  · replace h := h.2 c_1
    refine Wx.path (k := 1) [0] (C := [r = 0]) (pc' := 10) (ls' := [some (.inr (.inr (9, 0)))]) (st' := []) (M' := M1) rfl c_1 ?_
    exact Wx.thr rfl h
  · replace h := h.1 c_1
    refine Wx.path (k := 1) [1] (C := [r ≠ 0]) (pc' := 20) (ls' := [some (.inr (.inr (9, 0)))]) (st' := []) (M' := M1) rfl c_1 ?_
    refine Wx.path (k := 4) [] (C := []) (pc' := 28) (ls' := [some (.inr (.inr (9, 0)))]) (st' := [.inr (.inr (4, 0)), .inr (.inr (6, 0))]) (M' := M1) rfl trivial ?_
    refine Wx.call h rfl rfl (by decide) ?_
    rintro _ M1_1 ⟨rfl, h⟩
    show Wx 6 904 31 [some (.inr (.inr (9, 0)))] [] M1_1 (xI Q T)
    refine Wx.path (k := 1) [] (C := []) (pc' := 32) (ls' := [some (.inr (.inr (9, 0)))]) (st' := [.inr (.inr (9, 0))]) (M' := M1_1) rfl trivial ?_
    refine Wx.call h rfl rfl (by decide) ?_
    rintro _ M1_2 ⟨rfl, h⟩
    show Wx 6 904 35 [some (.inr (.inr (9, 0)))] [] M1_2 (xI Q T)
    refine Wx.path (k := 3) [] (C := []) (pc' := 42) (ls' := [some (.inr (.inr (9, 0)))]) (st' := [.inl (M1_2.1 6 0 5)]) (M' := M1_2) rfl trivial ?_
    exact Wx.ret rfl ⟨_, rfl, h⟩
/-- X9_undo -/
def X_906 (M : Mm) (Q : Int → Mm → Prop) (T : Nat → Mm → Prop) : Prop := Xv 3 906 [.inr (.inr (9, 0))] M (xI Q T)
theorem x_906 {M : Mm} {Q : Int → Mm → Prop} {T : Nat → Mm → Prop} (h : ((1 ≤ M.1 1 0 2 → (E_102 0 M (fun M1 : Mm => (E_501 M1 (fun M1_1 : Mm => (Q (M1_1.1 1 0 2) M1_1)))))) ∧ (M.1 1 0 2 < 1 → (T 2 M)))) : X_906 M Q T := by
  show Wx 3 906 0 [some (.inr (.inr (9, 0)))] [] M (xI Q T)
  refine Wx.path (k := 4) [] (C := []) (pc' := 8) (ls' := [some (.inr (.inr (9, 0)))]) (st' := [.inl 1, .inl (M.1 1 0 2)]) (M' := M) rfl trivial ?_
  rcases Int.lt_or_le (M.1 1 0 2) (1) with c_1 | c_1
  · replace h := h.2 c_1
    refine Wx.path (k := 1) [0] (C := [M.1 1 0 2 < 1]) (pc' := 11) (ls' := [some (.inr (.inr (9, 0)))]) (st' := []) (M' := M) rfl c_1 ?_
    exact Wx.thr rfl h
  · replace h := h.1 c_1
    refine Wx.path (k := 1) [1] (C := [1 ≤ M.1 1 0 2]) (pc' := 21) (ls' := [some (.inr (.inr (9, 0)))]) (st' := []) (M' := M) rfl c_1 ?_
    refine Wx.path (k := 4) [] (C := []) (pc' := 29) (ls' := [some (.inr (.inr (9, 0)))]) (st' := [.inr (.inr (4, 0)), .inr (.inr (1, 0))]) (M' := M) rfl trivial ?_
    refine Wx.call h rfl rfl (by decide) ?_
    rintro _ M1 ⟨rfl, h⟩
    show Wx 3 906 32 [some (.inr (.inr (9, 0)))] [] M1 (xI Q T)
    refine Wx.path (k := 2) [] (C := []) (pc' := 36) (ls' := [some (.inr (.inr (9, 0)))]) (st' := [.inr (.inr (5, 0))]) (M' := M1) rfl trivial ?_
    refine Wx.call h rfl rfl (by decide) ?_
    rintro _ M1_1 ⟨rfl, h⟩
    show Wx 3 906 39 [some (.inr (.inr (9, 0)))] [] M1_1 (xI Q T)
    refine Wx.path (k := 3) [] (C := []) (pc' := 46) (ls' := [some (.inr (.inr (9, 0)))]) (st' := [.inl (M1_1.1 1 0 2)]) (M' := M1_1) rfl trivial ?_
    exact Wx.ret rfl ⟨_, rfl, h⟩
/-- X9_redo -/
def X_907 (M : Mm) (Q : Int → Mm → Prop) (T : Nat → Mm → Prop) : Prop := Xv 3 907 [.inr (.inr (9, 0))] M (xI Q T)
theorem x_907 {M : Mm} {Q : Int → Mm → Prop} {T : Nat → Mm → Prop} (h : ((1 ≤ M.1 1 0 3 → (E_103 0 M (fun M1 : Mm => (E_501 M1 (fun M1_1 : Mm => (Q (M1_1.1 1 0 3) M1_1)))))) ∧ (M.1 1 0 3 < 1 → (T 2 M)))) : X_907 M Q T := by
  show Wx 3 907 0 [some (.inr (.inr (9, 0)))] [] M (xI Q T)
  refine Wx.path (k := 4) [] (C := []) (pc' := 8) (ls' := [some (.inr (.inr (9, 0)))]) (st' := [.inl 1, .inl (M.1 1 0 3)]) (M' := M) rfl trivial ?_
  rcases Int.lt_or_le (M.1 1 0 3) (1) with c_1 | c_1
  · replace h := h.2 c_1
    refine Wx.path (k := 1) [0] (C := [M.1 1 0 3 < 1]) (pc' := 11) (ls' := [some (.inr (.inr (9, 0)))]) (st' := []) (M' := M) rfl c_1 ?_
    exact Wx.thr rfl h
  · replace h := h.1 c_1
    refine Wx.path (k := 1) [1] (C := [1 ≤ M.1 1 0 3]) (pc' := 21) (ls' := [some (.inr (.inr (9, 0)))]) (st' := []) (M' := M) rfl c_1 ?_
    refine Wx.path (k := 4) [] (C := []) (pc' := 29) (ls' := [some (.inr (.inr (9, 0)))]) (st' := [.inr (.inr (4, 0)), .inr (.inr (1, 0))]) (M' := M) rfl trivial ?_
    refine Wx.call h rfl rfl (by decide) ?_
    rintro _ M1 ⟨rfl, h⟩
    show Wx 3 907 32 [some (.inr (.inr (9, 0)))] [] M1 (xI Q T)
    refine Wx.path (k := 2) [] (C := []) (pc' := 36) (ls' := [some (.inr (.inr (9, 0)))]) (st' := [.inr (.inr (5, 0))]) (M' := M1) rfl trivial ?_
    refine Wx.call h rfl rfl (by decide) ?_
    rintro _ M1_1 ⟨rfl, h⟩
    show Wx 3 907 39 [some (.inr (.inr (9, 0)))] [] M1_1 (xI Q T)
    refine Wx.path (k := 3) [] (C := []) (pc' := 46) (ls' := [some (.inr (.inr (9, 0)))]) (st' := [.inl (M1_1.1 1 0 3)]) (M' := M1_1) rfl trivial ?_
    exact Wx.ret rfl ⟨_, rfl, h⟩
/-- X9_restore -/
def X_909 (M : Mm) (Q : Int → Mm → Prop) (T : Nat → Mm → Prop) : Prop := Xv 3 909 [.inr (.inr (9, 0))] M (xI Q T)
theorem x_909 {M : Mm} {Q : Int → Mm → Prop} {T : Nat → Mm → Prop} (h : ((M.1 9 0 6 ≠ 0 → (E_404 0 1 M (fun M1 : Mm => (E_934 M1 (fun M1_1 : Mm => (E_402 0 M1_1 (fun (r : Int) (M1_2 : Mm) => (Q r M1_2)))))))) ∧ (M.1 9 0 6 = 0 → (T 2 M)))) : X_909 M Q T := by
  show Wx 3 909 0 [some (.inr (.inr (9, 0)))] [] M (xI Q T)
  refine Wx.path (k := 2) [] (C := []) (pc' := 4) (ls' := [some (.inr (.inr (9, 0)))]) (st' := [.inl (M.1 9 0 6)]) (M' := M) rfl trivial ?_
  rcases Decidable.em (M.1 9 0 6 = 0) with c_1 | c_1
  · replace h := h.2 c_1
    refine Wx.path (k := 1) [0] (C := [M.1 9 0 6 = 0]) (pc' := 7) (ls' := [some (.inr (.inr (9, 0)))]) (st' := []) (M' := M) rfl c_1 ?_
    exact Wx.thr rfl h
  · replace h := h.1 c_1
    refine Wx.path (k := 1) [1] (C := [M.1 9 0 6 ≠ 0]) (pc' := 17) (ls' := [some (.inr (.inr (9, 0)))]) (st' := []) (M' := M) rfl c_1 ?_
    refine Wx.path (k := 4) [] (C := []) (pc' := 25) (ls' := [some (.inr (.inr (9, 0)))]) (st' := [.inr (.inr (4, 1)), .inr (.inr (4, 0))]) (M' := M) rfl trivial ?_
    refine Wx.call h rfl rfl (by decide) ?_
    rintro _ M1 ⟨rfl, h⟩
    show Wx 3 909 28 [some (.inr (.inr (9, 0)))] [] M1 (xI Q T)
    refine Wx.path (k := 1) [] (C := []) (pc' := 29) (ls' := [some (.inr (.inr (9, 0)))]) (st' := [.inr (.inr (9, 0))]) (M' := M1) rfl trivial ?_
    refine Wx.call h rfl rfl (by decide) ?_
    rintro _ M1_1 ⟨rfl, h⟩
    show Wx 3 909 32 [some (.inr (.inr (9, 0)))] [] M1_1 (xI Q T)
    refine Wx.path (k := 2) [] (C := []) (pc' := 36) (ls' := [some (.inr (.inr (9, 0)))]) (st' := [.inr (.inr (4, 0))]) (M' := M1_1) rfl trivial ?_
    refine Wx.call h rfl rfl (by decide) ?_
    rintro _ M1_2 ⟨r, rfl, h⟩
    show Wx 3 909 39 [some (.inr (.inr (9, 0)))] [.inl r] M1_2 (xI Q T)
    exact Wx.ret rfl ⟨_, rfl, h⟩
/-- X9_contains -/
def X_910 (x1 : Int) (x2 : Int) (M : Mm) (Q : Int → Mm → Prop) (T : Nat → Mm → Prop) : Prop := Xv 1 910 [.inr (.inr (9, 0)), .inl x1, .inl x2] M (xI Q T)
theorem x_910 {x1 : Int} {x2 : Int} {M : Mm} {Q : Int → Mm → Prop} {T : Nat → Mm → Prop} (h : ((isCellV x1 x2 ≠ 0 → ((hasV (M.1 500 0) x1 x2 = 0 ∨ hasV (M.1 500 0) x1 x2 = 1) ∧ (Q (hasV (M.1 500 0) x1 x2) M))) ∧ (isCellV x1 x2 = 0 → (T 3 M)))) : X_910 x1 x2 M Q T := by
  show Wx 1 910 0 [some (.inr (.inr (9, 0))), some (.inl x1), some (.inl x2)] [] M (xI Q T)
  refine Wx.path (k := 2) [] (C := []) (pc' := 2) (ls' := [some (.inr (.inr (9, 0))), some (.inl x1), some (.inl x2)]) (st' := [.inl x2, .inl x1]) (M' := M) rfl trivial ?_
  refine Wx.call (e935) rfl rfl (by decide) ?_
  rintro v_ M_ ⟨eM_, ev_⟩
  rw [eM_, ev_]
  clear eM_ ev_ v_ M_
  show Wx 1 910 5 [some (.inr (.inr (9, 0))), some (.inl x1), some (.inl x2)] [.inl (isCellV x1 x2)] M (xI Q T)
  rcases Decidable.em (isCellV x1 x2 = 0) with c_1 | c_1
  · replace h := h.2 c_1
    refine Wx.path (k := 1) [0] (C := [isCellV x1 x2 = 0]) (pc' := 8) (ls' := [some (.inr (.inr (9, 0))), some (.inl x1), some (.inl x2)]) (st' := []) (M' := M) rfl c_1 ?_
    exact Wx.thr rfl h
  · replace h := h.1 c_1
    refine Wx.path (k := 1) [1] (C := [isCellV x1 x2 ≠ 0]) (pc' := 18) (ls' := [some (.inr (.inr (9, 0))), some (.inl x1), some (.inl x2)]) (st' := []) (M' := M) rfl c_1 ?_
    refine Wx.path (k := 4) [] (C := []) (pc' := 24) (ls' := [some (.inr (.inr (9, 0))), some (.inl x1), some (.inl x2)]) (st' := [.inl x2, .inl x1, .inr (.inr (4, 0))]) (M' := M) rfl trivial ?_
    refine Wx.call (e401) rfl rfl (by decide) ?_
    rintro v_ M_ ⟨eM_, ev_⟩
    rw [eM_, ev_]
    clear eM_ ev_ v_ M_
    show Wx 1 910 27 [some (.inr (.inr (9, 0))), some (.inl x1), some (.inl x2)] [.inl (hasV (M.1 500 0) x1 x2)] M (xI Q T)
    exact Wx.ret (by rcases h.1 with e_r | e_r <;> rw [e_r] <;> rfl) ⟨_, rfl, h.2⟩
/-- X9_edge -/
def X_912 (x1 : Int) (x2 : Int) (M : Mm) (Q : Int → Mm → Prop) (T : Nat → Mm → Prop) : Prop := Xv 6 912 [.inr (.inr (9, 0)), .inl x1, .inl x2] M (xI Q T)
theorem x_912 {x1 : Int} {x2 : Int} {M : Mm} {Q : Int → Mm → Prop} {T : Nat → Mm → Prop} (h : (E_502 0 M (fun M1 : Mm => ((x1 < 0 → (T 3 M1)) ∧ (0 ≤ x1 → ((x1 < M1.1 0 0 8 → ((x2 < 0 → (T 1 M1)) ∧ (0 ≤ x2 → ((x2 ≤ 6 → (E_519 x1 x2 M1 (fun (r : Int) (M1_1 : Mm) => (Q r M1_1)))) ∧ (6 < x2 → (T 1 M1)))))) ∧ (M1.1 0 0 8 ≤ x1 → (T 3 M1)))))))) : X_912 x1 x2 M Q T := by
  show Wx 6 912 0 [some (.inr (.inr (9, 0))), some (.inl x1), some (.inl x2)] [] M (xI Q T)
  refine Wx.path (k := 4) [] (C := []) (pc' := 8) (ls' := [some (.inr (.inr (9, 0))), some (.inl x1), some (.inl x2)]) (st' := [.inr (.inr (4, 0)), .inr (.inr (5, 0))]) (M' := M) rfl trivial ?_
  refine Wx.call h rfl rfl (by decide) ?_
  rintro _ M1 ⟨rfl, h⟩
  show Wx 6 912 11 [some (.inr (.inr (9, 0))), some (.inl x1), some (.inl x2)] [] M1 (xI Q T)
  refine Wx.path (k := 1) [] (C := []) (pc' := 12) (ls' := [some (.inr (.inr (9, 0))), some (.inl x1), some (.inl x2)]) (st' := [.inl x1]) (M' := M1) rfl trivial ?_
  rcases Int.lt_or_le (x1) (0) with c_1 | c_1
  · replace h := h.1 c_1
    refine Wx.path (k := 1) [1] (C := [x1 < 0]) (pc' := 29) (ls' := [some (.inr (.inr (9, 0))), some (.inl x1), some (.inl x2)]) (st' := []) (M' := M1) rfl c_1 ?_
    exact Wx.thr rfl h
  · replace h := h.2 c_1
    refine Wx.path (k := 1) [0] (C := [0 ≤ x1]) (pc' := 15) (ls' := [some (.inr (.inr (9, 0))), some (.inl x1), some (.inl x2)]) (st' := []) (M' := M1) rfl c_1 ?_
    refine Wx.path (k := 5) [] (C := []) (pc' := 26) (ls' := [some (.inr (.inr (9, 0))), some (.inl x1), some (.inl x2)]) (st' := [.inl (M1.1 0 0 8), .inl x1]) (M' := M1) rfl trivial ?_
    rcases Int.lt_or_le (x1) (M1.1 0 0 8) with c_2 | c_2
    · replace h := h.1 c_2
      refine Wx.path (k := 1) [1] (C := [x1 < M1.1 0 0 8]) (pc' := 39) (ls' := [some (.inr (.inr (9, 0))), some (.inl x1), some (.inl x2)]) (st' := []) (M' := M1) rfl c_2 ?_
      refine Wx.path (k := 1) [] (C := []) (pc' := 40) (ls' := [some (.inr (.inr (9, 0))), some (.inl x1), some (.inl x2)]) (st' := [.inl x2]) (M' := M1) rfl trivial ?_
      rcases Int.lt_or_le (x2) (0) with c_3 | c_3
      · replace h := h.1 c_3
        refine Wx.path (k := 1) [1] (C := [x2 < 0]) (pc' := 49) (ls' := [some (.inr (.inr (9, 0))), some (.inl x1), some (.inl x2)]) (st' := []) (M' := M1) rfl c_3 ?_
        exact Wx.thr rfl h
      · replace h := h.2 c_3
        refine Wx.path (k := 1) [0] (C := [0 ≤ x2]) (pc' := 43) (ls' := [some (.inr (.inr (9, 0))), some (.inl x1), some (.inl x2)]) (st' := []) (M' := M1) rfl c_3 ?_
        refine Wx.path (k := 2) [] (C := []) (pc' := 46) (ls' := [some (.inr (.inr (9, 0))), some (.inl x1), some (.inl x2)]) (st' := [.inl 6, .inl x2]) (M' := M1) rfl trivial ?_
        rcases Int.lt_or_le (6) (x2) with c_4 | c_4
        · replace h := h.2 c_4
          refine Wx.path (k := 1) [0] (C := [6 < x2]) (pc' := 49) (ls' := [some (.inr (.inr (9, 0))), some (.inl x1), some (.inl x2)]) (st' := []) (M' := M1) rfl c_4 ?_
          exact Wx.thr rfl h
        · replace h := h.1 c_4
          refine Wx.path (k := 1) [1] (C := [x2 ≤ 6]) (pc' := 59) (ls' := [some (.inr (.inr (9, 0))), some (.inl x1), some (.inl x2)]) (st' := []) (M' := M1) rfl c_4 ?_
          refine Wx.path (k := 4) [] (C := []) (pc' := 65) (ls' := [some (.inr (.inr (9, 0))), some (.inl x1), some (.inl x2)]) (st' := [.inl x2, .inl x1, .inr (.inr (5, 0))]) (M' := M1) rfl trivial ?_
          refine Wx.call h rfl rfl (by decide) ?_
          rintro _ M1_1 ⟨r, rfl, h⟩
          show Wx 6 912 68 [some (.inr (.inr (9, 0))), some (.inl x1), some (.inl x2)] [.inl r] M1_1 (xI Q T)
          exact Wx.ret rfl ⟨_, rfl, h⟩
    · replace h := h.2 c_2
      refine Wx.path (k := 1) [0] (C := [M1.1 0 0 8 ≤ x1]) (pc' := 29) (ls' := [some (.inr (.inr (9, 0))), some (.inl x1), some (.inl x2)]) (st' := []) (M' := M1) rfl c_2 ?_
      exact Wx.thr rfl h
/-- X9_group -/
def X_915 (x1 : Int) (x2 : Int) (M : Mm) (Q : Int → Mm → Prop) (T : Nat → Mm → Prop) : Prop := Xv 6 915 [.inr (.inr (9, 0)), .inl x1, .inl x2] M (xI Q T)
theorem x_915 {x1 : Int} {x2 : Int} {M : Mm} {Q : Int → Mm → Prop} {T : Nat → Mm → Prop} (h : (E_502 0 M (fun M1 : Mm => ((x1 < 0 → (T 3 M1)) ∧ (0 ≤ x1 → ((x1 < M1.1 0 0 9 → ((x2 < 0 → (T 1 M1)) ∧ (0 ≤ x2 → ((x2 ≤ 3 → (E_10 x1 x2 M1 (fun (r : Int) (M1_1 : Mm) => (Q r M1_1)))) ∧ (3 < x2 → (T 1 M1)))))) ∧ (M1.1 0 0 9 ≤ x1 → (T 3 M1)))))))) : X_915 x1 x2 M Q T := by
  show Wx 6 915 0 [some (.inr (.inr (9, 0))), some (.inl x1), some (.inl x2)] [] M (xI Q T)
  refine Wx.path (k := 4) [] (C := []) (pc' := 8) (ls' := [some (.inr (.inr (9, 0))), some (.inl x1), some (.inl x2)]) (st' := [.inr (.inr (4, 0)), .inr (.inr (5, 0))]) (M' := M) rfl trivial ?_
  refine Wx.call h rfl rfl (by decide) ?_
  rintro _ M1 ⟨rfl, h⟩
  show Wx 6 915 11 [some (.inr (.inr (9, 0))), some (.inl x1), some (.inl x2)] [] M1 (xI Q T)
  refine Wx.path (k := 1) [] (C := []) (pc' := 12) (ls' := [some (.inr (.inr (9, 0))), some (.inl x1), some (.inl x2)]) (st' := [.inl x1]) (M' := M1) rfl trivial ?_
  rcases Int.lt_or_le (x1) (0) with c_1 | c_1
  · replace h := h.1 c_1
    refine Wx.path (k := 1) [1] (C := [x1 < 0]) (pc' := 29) (ls' := [some (.inr (.inr (9, 0))), some (.inl x1), some (.inl x2)]) (st' := []) (M' := M1) rfl c_1 ?_
    exact Wx.thr rfl h
  · replace h := h.2 c_1
    refine Wx.path (k := 1) [0] (C := [0 ≤ x1]) (pc' := 15) (ls' := [some (.inr (.inr (9, 0))), some (.inl x1), some (.inl x2)]) (st' := []) (M' := M1) rfl c_1 ?_
    refine Wx.path (k := 5) [] (C := []) (pc' := 26) (ls' := [some (.inr (.inr (9, 0))), some (.inl x1), some (.inl x2)]) (st' := [.inl (M1.1 0 0 9), .inl x1]) (M' := M1) rfl trivial ?_
    rcases Int.lt_or_le (x1) (M1.1 0 0 9) with c_2 | c_2
    · replace h := h.1 c_2
      refine Wx.path (k := 1) [1] (C := [x1 < M1.1 0 0 9]) (pc' := 39) (ls' := [some (.inr (.inr (9, 0))), some (.inl x1), some (.inl x2)]) (st' := []) (M' := M1) rfl c_2 ?_
      refine Wx.path (k := 1) [] (C := []) (pc' := 40) (ls' := [some (.inr (.inr (9, 0))), some (.inl x1), some (.inl x2)]) (st' := [.inl x2]) (M' := M1) rfl trivial ?_
      rcases Int.lt_or_le (x2) (0) with c_3 | c_3
      · replace h := h.1 c_3
        refine Wx.path (k := 1) [1] (C := [x2 < 0]) (pc' := 48) (ls' := [some (.inr (.inr (9, 0))), some (.inl x1), some (.inl x2)]) (st' := []) (M' := M1) rfl c_3 ?_
        exact Wx.thr rfl h
      · replace h := h.2 c_3
        refine Wx.path (k := 1) [0] (C := [0 ≤ x2]) (pc' := 43) (ls' := [some (.inr (.inr (9, 0))), some (.inl x1), some (.inl x2)]) (st' := []) (M' := M1) rfl c_3 ?_
        refine Wx.path (k := 2) [] (C := []) (pc' := 45) (ls' := [some (.inr (.inr (9, 0))), some (.inl x1), some (.inl x2)]) (st' := [.inl 3, .inl x2]) (M' := M1) rfl trivial ?_
        rcases Int.lt_or_le (3) (x2) with c_4 | c_4
        · replace h := h.2 c_4
          refine Wx.path (k := 1) [0] (C := [3 < x2]) (pc' := 48) (ls' := [some (.inr (.inr (9, 0))), some (.inl x1), some (.inl x2)]) (st' := []) (M' := M1) rfl c_4 ?_
          exact Wx.thr rfl h
        · replace h := h.1 c_4
          refine Wx.path (k := 1) [1] (C := [x2 ≤ 3]) (pc' := 58) (ls' := [some (.inr (.inr (9, 0))), some (.inl x1), some (.inl x2)]) (st' := []) (M' := M1) rfl c_4 ?_
          refine Wx.path (k := 5) [] (C := []) (pc' := 67) (ls' := [some (.inr (.inr (9, 0))), some (.inl x1), some (.inl x2)]) (st' := [.inl x2, .inl x1, .inr (.inr (0, 0))]) (M' := M1) rfl trivial ?_
          refine Wx.call h rfl rfl (by decide) ?_
          rintro _ M1_1 ⟨r, rfl, h⟩
          show Wx 6 915 70 [some (.inr (.inr (9, 0))), some (.inl x1), some (.inl x2)] [.inl r] M1_1 (xI Q T)
          exact Wx.ret rfl ⟨_, rfl, h⟩
    · replace h := h.2 c_2
      refine Wx.path (k := 1) [0] (C := [M1.1 0 0 9 ≤ x1]) (pc' := 29) (ls' := [some (.inr (.inr (9, 0))), some (.inl x1), some (.inl x2)]) (st' := []) (M' := M1) rfl c_2 ?_
      exact Wx.thr rfl h
/-- X9_height -/
def X_917 (x1 : Int) (x2 : Int) (M : Mm) (Q : Int → Mm → Prop) (T : Nat → Mm → Prop) : Prop := Xv 2 917 [.inr (.inr (9, 0)), .inl x1, .inl x2] M (xI Q T)
theorem x_917 {x1 : Int} {x2 : Int} {M : Mm} {Q : Int → Mm → Prop} {T : Nat → Mm → Prop} (h : ((x1 < 0 → (T 3 M)) ∧ (0 ≤ x1 → ((96 < x1 → (T 3 M)) ∧ (x1 ≤ 96 → ((x2 < 0 → (T 3 M)) ∧ (0 ≤ x2 → ((x2 ≤ 96 → (E_415 0 x1 x2 M (fun (r : Int) (M1 : Mm) => (Q r M1)))) ∧ (96 < x2 → (T 3 M)))))))))) : X_917 x1 x2 M Q T := by
  show Wx 2 917 0 [some (.inr (.inr (9, 0))), some (.inl x1), some (.inl x2)] [] M (xI Q T)
  refine Wx.path (k := 1) [] (C := []) (pc' := 1) (ls' := [some (.inr (.inr (9, 0))), some (.inl x1), some (.inl x2)]) (st' := [.inl x1]) (M' := M) rfl trivial ?_
  rcases Int.lt_or_le (x1) (0) with c_1 | c_1
  · replace h := h.1 c_1
    refine Wx.path (k := 1) [1] (C := [x1 < 0]) (pc' := 20) (ls' := [some (.inr (.inr (9, 0))), some (.inl x1), some (.inl x2)]) (st' := []) (M' := M) rfl c_1 ?_
    exact Wx.thr rfl h
  · replace h := h.2 c_1
    refine Wx.path (k := 1) [0] (C := [0 ≤ x1]) (pc' := 4) (ls' := [some (.inr (.inr (9, 0))), some (.inl x1), some (.inl x2)]) (st' := []) (M' := M) rfl c_1 ?_
    refine Wx.path (k := 2) [] (C := []) (pc' := 7) (ls' := [some (.inr (.inr (9, 0))), some (.inl x1), some (.inl x2)]) (st' := [.inl 96, .inl x1]) (M' := M) rfl trivial ?_
    rcases Int.lt_or_le (96) (x1) with c_2 | c_2
    · replace h := h.1 c_2
      refine Wx.path (k := 1) [1] (C := [96 < x1]) (pc' := 20) (ls' := [some (.inr (.inr (9, 0))), some (.inl x1), some (.inl x2)]) (st' := []) (M' := M) rfl c_2 ?_
      exact Wx.thr rfl h
    · replace h := h.2 c_2
      refine Wx.path (k := 1) [0] (C := [x1 ≤ 96]) (pc' := 10) (ls' := [some (.inr (.inr (9, 0))), some (.inl x1), some (.inl x2)]) (st' := []) (M' := M) rfl c_2 ?_
      refine Wx.path (k := 1) [] (C := []) (pc' := 11) (ls' := [some (.inr (.inr (9, 0))), some (.inl x1), some (.inl x2)]) (st' := [.inl x2]) (M' := M) rfl trivial ?_
      rcases Int.lt_or_le (x2) (0) with c_3 | c_3
      · replace h := h.1 c_3
        refine Wx.path (k := 1) [1] (C := [x2 < 0]) (pc' := 20) (ls' := [some (.inr (.inr (9, 0))), some (.inl x1), some (.inl x2)]) (st' := []) (M' := M) rfl c_3 ?_
        exact Wx.thr rfl h
      · replace h := h.2 c_3
        refine Wx.path (k := 1) [0] (C := [0 ≤ x2]) (pc' := 14) (ls' := [some (.inr (.inr (9, 0))), some (.inl x1), some (.inl x2)]) (st' := []) (M' := M) rfl c_3 ?_
        refine Wx.path (k := 2) [] (C := []) (pc' := 17) (ls' := [some (.inr (.inr (9, 0))), some (.inl x1), some (.inl x2)]) (st' := [.inl 96, .inl x2]) (M' := M) rfl trivial ?_
        rcases Int.lt_or_le (96) (x2) with c_4 | c_4
        · replace h := h.2 c_4
          refine Wx.path (k := 1) [0] (C := [96 < x2]) (pc' := 20) (ls' := [some (.inr (.inr (9, 0))), some (.inl x1), some (.inl x2)]) (st' := []) (M' := M) rfl c_4 ?_
          exact Wx.thr rfl h
        · replace h := h.1 c_4
          refine Wx.path (k := 1) [1] (C := [x2 ≤ 96]) (pc' := 30) (ls' := [some (.inr (.inr (9, 0))), some (.inl x1), some (.inl x2)]) (st' := []) (M' := M) rfl c_4 ?_
          refine Wx.path (k := 4) [] (C := []) (pc' := 36) (ls' := [some (.inr (.inr (9, 0))), some (.inl x1), some (.inl x2)]) (st' := [.inl x2, .inl x1, .inr (.inr (4, 0))]) (M' := M) rfl trivial ?_
          refine Wx.call h rfl rfl (by decide) ?_
          rintro _ M1 ⟨r, rfl, h⟩
          show Wx 2 917 39 [some (.inr (.inr (9, 0))), some (.inl x1), some (.inl x2)] [.inl r] M1 (xI Q T)
          exact Wx.ret rfl ⟨_, rfl, h⟩
/-- X9_face -/
def X_918 (x1 : Int) (x2 : Int) (M : Mm) (Q : Int → Mm → Prop) (T : Nat → Mm → Prop) : Prop := Xv 6 918 [.inr (.inr (9, 0)), .inl x1, .inl x2] M (xI Q T)
theorem x_918 {x1 : Int} {x2 : Int} {M : Mm} {Q : Int → Mm → Prop} {T : Nat → Mm → Prop} (h : ((isCellV x1 x2 ≠ 0 → (E_502 0 M (fun M1 : Mm => (E_518 x1 x2 M1 (fun (r : Int) (M1_1 : Mm) => (Q r M1_1)))))) ∧ (isCellV x1 x2 = 0 → (T 3 M)))) : X_918 x1 x2 M Q T := by
  show Wx 6 918 0 [some (.inr (.inr (9, 0))), some (.inl x1), some (.inl x2)] [] M (xI Q T)
  refine Wx.path (k := 2) [] (C := []) (pc' := 2) (ls' := [some (.inr (.inr (9, 0))), some (.inl x1), some (.inl x2)]) (st' := [.inl x2, .inl x1]) (M' := M) rfl trivial ?_
  refine Wx.call (e935) rfl rfl (by decide) ?_
  rintro v_ M_ ⟨eM_, ev_⟩
  rw [eM_, ev_]
  clear eM_ ev_ v_ M_
  show Wx 6 918 5 [some (.inr (.inr (9, 0))), some (.inl x1), some (.inl x2)] [.inl (isCellV x1 x2)] M (xI Q T)
  rcases Decidable.em (isCellV x1 x2 = 0) with c_1 | c_1
  · replace h := h.2 c_1
    refine Wx.path (k := 1) [0] (C := [isCellV x1 x2 = 0]) (pc' := 8) (ls' := [some (.inr (.inr (9, 0))), some (.inl x1), some (.inl x2)]) (st' := []) (M' := M) rfl c_1 ?_
    exact Wx.thr rfl h
  · replace h := h.1 c_1
    refine Wx.path (k := 1) [1] (C := [isCellV x1 x2 ≠ 0]) (pc' := 18) (ls' := [some (.inr (.inr (9, 0))), some (.inl x1), some (.inl x2)]) (st' := []) (M' := M) rfl c_1 ?_
    refine Wx.path (k := 4) [] (C := []) (pc' := 26) (ls' := [some (.inr (.inr (9, 0))), some (.inl x1), some (.inl x2)]) (st' := [.inr (.inr (4, 0)), .inr (.inr (5, 0))]) (M' := M) rfl trivial ?_
    refine Wx.call h rfl rfl (by decide) ?_
    rintro _ M1 ⟨rfl, h⟩
    show Wx 6 918 29 [some (.inr (.inr (9, 0))), some (.inl x1), some (.inl x2)] [] M1 (xI Q T)
    refine Wx.path (k := 4) [] (C := []) (pc' := 35) (ls' := [some (.inr (.inr (9, 0))), some (.inl x1), some (.inl x2)]) (st' := [.inl x2, .inl x1, .inr (.inr (5, 0))]) (M' := M1) rfl trivial ?_
    refine Wx.call h rfl rfl (by decide) ?_
    rintro _ M1_1 ⟨r, rfl, h⟩
    show Wx 6 918 38 [some (.inr (.inr (9, 0))), some (.inl x1), some (.inl x2)] [.inl r] M1_1 (xI Q T)
    exact Wx.ret rfl ⟨_, rfl, h⟩
/-- X9_area -/
def X_919 (x1 : Int) (M : Mm) (Q : Int → Mm → Prop) (T : Nat → Mm → Prop) : Prop := Xv 6 919 [.inr (.inr (9, 0)), .inl x1] M (xI Q T)
theorem x_919 {x1 : Int} {M : Mm} {Q : Int → Mm → Prop} {T : Nat → Mm → Prop} (h : ((x1 < 0 → (T 1 M)) ∧ (0 ≤ x1 → ((x1 ≤ 24 → (E_502 0 M (fun M1 : Mm => (E_514 x1 M1 (fun (r : Int) (M1_1 : Mm) => (Q r M1_1)))))) ∧ (24 < x1 → (T 1 M)))))) : X_919 x1 M Q T := by
  show Wx 6 919 0 [some (.inr (.inr (9, 0))), some (.inl x1)] [] M (xI Q T)
  refine Wx.path (k := 1) [] (C := []) (pc' := 1) (ls' := [some (.inr (.inr (9, 0))), some (.inl x1)]) (st' := [.inl x1]) (M' := M) rfl trivial ?_
  rcases Int.lt_or_le (x1) (0) with c_1 | c_1
  · replace h := h.1 c_1
    refine Wx.path (k := 1) [1] (C := [x1 < 0]) (pc' := 10) (ls' := [some (.inr (.inr (9, 0))), some (.inl x1)]) (st' := []) (M' := M) rfl c_1 ?_
    exact Wx.thr rfl h
  · replace h := h.2 c_1
    refine Wx.path (k := 1) [0] (C := [0 ≤ x1]) (pc' := 4) (ls' := [some (.inr (.inr (9, 0))), some (.inl x1)]) (st' := []) (M' := M) rfl c_1 ?_
    refine Wx.path (k := 2) [] (C := []) (pc' := 7) (ls' := [some (.inr (.inr (9, 0))), some (.inl x1)]) (st' := [.inl 24, .inl x1]) (M' := M) rfl trivial ?_
    rcases Int.lt_or_le (24) (x1) with c_2 | c_2
    · replace h := h.2 c_2
      refine Wx.path (k := 1) [0] (C := [24 < x1]) (pc' := 10) (ls' := [some (.inr (.inr (9, 0))), some (.inl x1)]) (st' := []) (M' := M) rfl c_2 ?_
      exact Wx.thr rfl h
    · replace h := h.1 c_2
      refine Wx.path (k := 1) [1] (C := [x1 ≤ 24]) (pc' := 20) (ls' := [some (.inr (.inr (9, 0))), some (.inl x1)]) (st' := []) (M' := M) rfl c_2 ?_
      refine Wx.path (k := 4) [] (C := []) (pc' := 28) (ls' := [some (.inr (.inr (9, 0))), some (.inl x1)]) (st' := [.inr (.inr (4, 0)), .inr (.inr (5, 0))]) (M' := M) rfl trivial ?_
      refine Wx.call h rfl rfl (by decide) ?_
      rintro _ M1 ⟨rfl, h⟩
      show Wx 6 919 31 [some (.inr (.inr (9, 0))), some (.inl x1)] [] M1 (xI Q T)
      refine Wx.path (k := 3) [] (C := []) (pc' := 36) (ls' := [some (.inr (.inr (9, 0))), some (.inl x1)]) (st' := [.inl x1, .inr (.inr (5, 0))]) (M' := M1) rfl trivial ?_
      refine Wx.call h rfl rfl (by decide) ?_
      rintro _ M1_1 ⟨r, rfl, h⟩
      show Wx 6 919 39 [some (.inr (.inr (9, 0))), some (.inl x1)] [.inl r] M1_1 (xI Q T)
      exact Wx.ret rfl ⟨_, rfl, h⟩
/-- X9_phase -/
def X_922 (x1 : Int) (x2 : Int) (M : Mm) (Q : Int → Mm → Prop) (T : Nat → Mm → Prop) : Prop := Xv 6 922 [.inr (.inr (9, 0)), .inl x1, .inl x2] M (xI Q T)
theorem x_922 {x1 : Int} {x2 : Int} {M : Mm} {Q : Int → Mm → Prop} {T : Nat → Mm → Prop} (h : (E_502 0 M (fun M1 : Mm => ((hpV (M1.1 5 0 11) x1 ≠ 0 → ((x2 < 0 → (T 1 M1)) ∧ (0 ≤ x2 → ((x2 ≤ 7 → (E_524 x1 x2 M1 (fun (r : Int) (M1_1 : Mm) => (Q r M1_1)))) ∧ (7 < x2 → (T 1 M1)))))) ∧ (hpV (M1.1 5 0 11) x1 = 0 → (T 3 M1)))))) : X_922 x1 x2 M Q T := by
  show Wx 6 922 0 [some (.inr (.inr (9, 0))), some (.inl x1), some (.inl x2)] [] M (xI Q T)
  refine Wx.path (k := 4) [] (C := []) (pc' := 8) (ls' := [some (.inr (.inr (9, 0))), some (.inl x1), some (.inl x2)]) (st' := [.inr (.inr (4, 0)), .inr (.inr (5, 0))]) (M' := M) rfl trivial ?_
  refine Wx.call h rfl rfl (by decide) ?_
  rintro _ M1 ⟨rfl, h⟩
  show Wx 6 922 11 [some (.inr (.inr (9, 0))), some (.inl x1), some (.inl x2)] [] M1 (xI Q T)
  refine Wx.path (k := 3) [] (C := []) (pc' := 16) (ls' := [some (.inr (.inr (9, 0))), some (.inl x1), some (.inl x2)]) (st' := [.inl x1, .inr (.inr (5, 0))]) (M' := M1) rfl trivial ?_
  refine Wx.call (e504) rfl rfl (by decide) ?_
  rintro v_ M_ ⟨eM_, ev_⟩
  rw [eM_, ev_]
  clear eM_ ev_ v_ M_
  show Wx 6 922 19 [some (.inr (.inr (9, 0))), some (.inl x1), some (.inl x2)] [.inl (hpV (M1.1 5 0 11) x1)] M1 (xI Q T)
  rcases Decidable.em (hpV (M1.1 5 0 11) x1 = 0) with c_1 | c_1
  · replace h := h.2 c_1
    refine Wx.path (k := 1) [0] (C := [hpV (M1.1 5 0 11) x1 = 0]) (pc' := 22) (ls' := [some (.inr (.inr (9, 0))), some (.inl x1), some (.inl x2)]) (st' := []) (M' := M1) rfl c_1 ?_
    exact Wx.thr rfl h
  · replace h := h.1 c_1
    refine Wx.path (k := 1) [1] (C := [hpV (M1.1 5 0 11) x1 ≠ 0]) (pc' := 32) (ls' := [some (.inr (.inr (9, 0))), some (.inl x1), some (.inl x2)]) (st' := []) (M' := M1) rfl c_1 ?_
    refine Wx.path (k := 1) [] (C := []) (pc' := 33) (ls' := [some (.inr (.inr (9, 0))), some (.inl x1), some (.inl x2)]) (st' := [.inl x2]) (M' := M1) rfl trivial ?_
    rcases Int.lt_or_le (x2) (0) with c_2 | c_2
    · replace h := h.1 c_2
      refine Wx.path (k := 1) [1] (C := [x2 < 0]) (pc' := 42) (ls' := [some (.inr (.inr (9, 0))), some (.inl x1), some (.inl x2)]) (st' := []) (M' := M1) rfl c_2 ?_
      exact Wx.thr rfl h
    · replace h := h.2 c_2
      refine Wx.path (k := 1) [0] (C := [0 ≤ x2]) (pc' := 36) (ls' := [some (.inr (.inr (9, 0))), some (.inl x1), some (.inl x2)]) (st' := []) (M' := M1) rfl c_2 ?_
      refine Wx.path (k := 2) [] (C := []) (pc' := 39) (ls' := [some (.inr (.inr (9, 0))), some (.inl x1), some (.inl x2)]) (st' := [.inl 7, .inl x2]) (M' := M1) rfl trivial ?_
      rcases Int.lt_or_le (7) (x2) with c_3 | c_3
      · replace h := h.2 c_3
        refine Wx.path (k := 1) [0] (C := [7 < x2]) (pc' := 42) (ls' := [some (.inr (.inr (9, 0))), some (.inl x1), some (.inl x2)]) (st' := []) (M' := M1) rfl c_3 ?_
        exact Wx.thr rfl h
      · replace h := h.1 c_3
        refine Wx.path (k := 1) [1] (C := [x2 ≤ 7]) (pc' := 52) (ls' := [some (.inr (.inr (9, 0))), some (.inl x1), some (.inl x2)]) (st' := []) (M' := M1) rfl c_3 ?_
        refine Wx.path (k := 4) [] (C := []) (pc' := 58) (ls' := [some (.inr (.inr (9, 0))), some (.inl x1), some (.inl x2)]) (st' := [.inl x2, .inl x1, .inr (.inr (5, 0))]) (M' := M1) rfl trivial ?_
        refine Wx.call h rfl rfl (by decide) ?_
        rintro _ M1_1 ⟨r, rfl, h⟩
        show Wx 6 922 61 [some (.inr (.inr (9, 0))), some (.inl x1), some (.inl x2)] [.inl r] M1_1 (xI Q T)
        exact Wx.ret rfl ⟨_, rfl, h⟩
/-- X9_contour -/
def X_923 (x1 : Int) (x2 : Int) (x3 : Int) (M : Mm) (Q : Int → Mm → Prop) (T : Nat → Mm → Prop) : Prop := Xv 6 923 [.inr (.inr (9, 0)), .inl x1, .inl x2, .inl x3] M (xI Q T)
theorem x_923 {x1 : Int} {x2 : Int} {x3 : Int} {M : Mm} {Q : Int → Mm → Prop} {T : Nat → Mm → Prop} (h : (E_502 0 M (fun M1 : Mm => ((hcV (M1.1 5 0 11) x1 (M1.1 2 (phV (M1.1 5 0 11) x1) 11) x2 ≠ 0 → ((x3 < 0 → (T 1 M1)) ∧ (0 ≤ x3 → ((x3 ≤ 3 → (E_208 (phV (M1.1 5 0 11) x1) x2 x3 M1 (fun (r : Int) (M1_1 : Mm) => (Q r M1_1)))) ∧ (3 < x3 → (T 1 M1)))))) ∧ (hcV (M1.1 5 0 11) x1 (M1.1 2 (phV (M1.1 5 0 11) x1) 11) x2 = 0 → (T 3 M1)))))) : X_923 x1 x2 x3 M Q T := by
  show Wx 6 923 0 [some (.inr (.inr (9, 0))), some (.inl x1), some (.inl x2), some (.inl x3)] [] M (xI Q T)
  refine Wx.path (k := 4) [] (C := []) (pc' := 8) (ls' := [some (.inr (.inr (9, 0))), some (.inl x1), some (.inl x2), some (.inl x3)]) (st' := [.inr (.inr (4, 0)), .inr (.inr (5, 0))]) (M' := M) rfl trivial ?_
  refine Wx.call h rfl rfl (by decide) ?_
  rintro _ M1 ⟨rfl, h⟩
  show Wx 6 923 11 [some (.inr (.inr (9, 0))), some (.inl x1), some (.inl x2), some (.inl x3)] [] M1 (xI Q T)
  refine Wx.path (k := 4) [] (C := []) (pc' := 17) (ls' := [some (.inr (.inr (9, 0))), some (.inl x1), some (.inl x2), some (.inl x3)]) (st' := [.inl x2, .inl x1, .inr (.inr (5, 0))]) (M' := M1) rfl trivial ?_
  refine Wx.call (e505) rfl rfl (by decide) ?_
  rintro v_ M_ ⟨eM_, ev_⟩
  rw [eM_, ev_]
  clear eM_ ev_ v_ M_
  show Wx 6 923 20 [some (.inr (.inr (9, 0))), some (.inl x1), some (.inl x2), some (.inl x3)] [.inl (hcV (M1.1 5 0 11) x1 (M1.1 2 (phV (M1.1 5 0 11) x1) 11) x2)] M1 (xI Q T)
  rcases Decidable.em (hcV (M1.1 5 0 11) x1 (M1.1 2 (phV (M1.1 5 0 11) x1) 11) x2 = 0) with c_1 | c_1
  · replace h := h.2 c_1
    refine Wx.path (k := 1) [0] (C := [hcV (M1.1 5 0 11) x1 (M1.1 2 (phV (M1.1 5 0 11) x1) 11) x2 = 0]) (pc' := 23) (ls' := [some (.inr (.inr (9, 0))), some (.inl x1), some (.inl x2), some (.inl x3)]) (st' := []) (M' := M1) rfl c_1 ?_
    exact Wx.thr rfl h
  · replace h := h.1 c_1
    refine Wx.path (k := 1) [1] (C := [hcV (M1.1 5 0 11) x1 (M1.1 2 (phV (M1.1 5 0 11) x1) 11) x2 ≠ 0]) (pc' := 33) (ls' := [some (.inr (.inr (9, 0))), some (.inl x1), some (.inl x2), some (.inl x3)]) (st' := []) (M' := M1) rfl c_1 ?_
    refine Wx.path (k := 1) [] (C := []) (pc' := 34) (ls' := [some (.inr (.inr (9, 0))), some (.inl x1), some (.inl x2), some (.inl x3)]) (st' := [.inl x3]) (M' := M1) rfl trivial ?_
    rcases Int.lt_or_le (x3) (0) with c_2 | c_2
    · replace h := h.1 c_2
      refine Wx.path (k := 1) [1] (C := [x3 < 0]) (pc' := 42) (ls' := [some (.inr (.inr (9, 0))), some (.inl x1), some (.inl x2), some (.inl x3)]) (st' := []) (M' := M1) rfl c_2 ?_
      exact Wx.thr rfl h
    · replace h := h.2 c_2
      refine Wx.path (k := 1) [0] (C := [0 ≤ x3]) (pc' := 37) (ls' := [some (.inr (.inr (9, 0))), some (.inl x1), some (.inl x2), some (.inl x3)]) (st' := []) (M' := M1) rfl c_2 ?_
      refine Wx.path (k := 2) [] (C := []) (pc' := 39) (ls' := [some (.inr (.inr (9, 0))), some (.inl x1), some (.inl x2), some (.inl x3)]) (st' := [.inl 3, .inl x3]) (M' := M1) rfl trivial ?_
      rcases Int.lt_or_le (3) (x3) with c_3 | c_3
      · replace h := h.2 c_3
        refine Wx.path (k := 1) [0] (C := [3 < x3]) (pc' := 42) (ls' := [some (.inr (.inr (9, 0))), some (.inl x1), some (.inl x2), some (.inl x3)]) (st' := []) (M' := M1) rfl c_3 ?_
        exact Wx.thr rfl h
      · replace h := h.1 c_3
        refine Wx.path (k := 1) [1] (C := [x3 ≤ 3]) (pc' := 52) (ls' := [some (.inr (.inr (9, 0))), some (.inl x1), some (.inl x2), some (.inl x3)]) (st' := []) (M' := M1) rfl c_3 ?_
        refine Wx.path (k := 3) [] (C := []) (pc' := 57) (ls' := [some (.inr (.inr (9, 0))), some (.inl x1), some (.inl x2), some (.inl x3)]) (st' := [.inl x1, .inr (.inr (5, 0))]) (M' := M1) rfl trivial ?_
        refine Wx.call (e503) rfl rfl (by decide) ?_
        rintro v_ M_ ⟨eM_, ev_⟩
        rw [eM_, ev_]
        clear eM_ ev_ v_ M_
        show Wx 6 923 60 [some (.inr (.inr (9, 0))), some (.inl x1), some (.inl x2), some (.inl x3)] [.inr (.inr (3, (phV (M1.1 5 0 11) x1)))] M1 (xI Q T)
        refine Wx.path (k := 3) [] (C := []) (pc' := 65) (ls' := [some (.inr (.inr (9, 0))), some (.inl x1), some (.inl x2), some (.inl x3)]) (st' := [.inl x3, .inl x2, .inr (.inr (2, (phV (M1.1 5 0 11) x1)))]) (M' := M1) rfl trivial ?_
        refine Wx.call h rfl rfl (by decide) ?_
        rintro _ M1_1 ⟨r, rfl, h⟩
        show Wx 6 923 68 [some (.inr (.inr (9, 0))), some (.inl x1), some (.inl x2), some (.inl x3)] [.inl r] M1_1 (xI Q T)
        exact Wx.ret rfl ⟨_, rfl, h⟩
/-- X9_vertex -/
def X_924 (x1 : Int) (x2 : Int) (x3 : Int) (x4 : Int) (M : Mm) (Q : Int → Mm → Prop) (T : Nat → Mm → Prop) : Prop := Xv 6 924 [.inr (.inr (9, 0)), .inl x1, .inl x2, .inl x3, .inl x4] M (xI Q T)
theorem x_924 {x1 : Int} {x2 : Int} {x3 : Int} {x4 : Int} {M : Mm} {Q : Int → Mm → Prop} {T : Nat → Mm → Prop} (h : (E_502 0 M (fun M1 : Mm => ((hsV (hcV (M1.1 5 0 11) x1 (M1.1 2 (phV (M1.1 5 0 11) x1) 11) x2) x3 (sofV (M1.1 2 (phV (M1.1 5 0 11) x1) 11) (M1.1 301 (phV (M1.1 5 0 11) x1)) x2) ≠ 0 → ((x4 = 0 → (E_210 (phV (M1.1 5 0 11) x1) x2 x3 M1 (fun (r : Int) (M1_1 : Mm) => ((x4 ≠ 0 → (Q (vyV (atN 340 (M1_1.1 305 (phV (M1.1 5 0 11) x1)) r) (atN 340 (M1_1.1 306 (phV (M1.1 5 0 11) x1)) r) (atN 340 (M1_1.1 307 (phV (M1.1 5 0 11) x1)) r) (atN 340 (M1_1.1 308 (phV (M1.1 5 0 11) x1)) r)) M1_1)) ∧ (x4 = 0 → (Q (vxV (atN 340 (M1_1.1 305 (phV (M1.1 5 0 11) x1)) r) (atN 340 (M1_1.1 306 (phV (M1.1 5 0 11) x1)) r) (atN 340 (M1_1.1 307 (phV (M1.1 5 0 11) x1)) r) (atN 340 (M1_1.1 308 (phV (M1.1 5 0 11) x1)) r)) M1_1)))))) ∧ (x4 ≠ 0 → ((x4 = 1 → (E_210 (phV (M1.1 5 0 11) x1) x2 x3 M1 (fun (r_1 : Int) (M1_2 : Mm) => ((x4 ≠ 0 → (Q (vyV (atN 340 (M1_2.1 305 (phV (M1.1 5 0 11) x1)) r_1) (atN 340 (M1_2.1 306 (phV (M1.1 5 0 11) x1)) r_1) (atN 340 (M1_2.1 307 (phV (M1.1 5 0 11) x1)) r_1) (atN 340 (M1_2.1 308 (phV (M1.1 5 0 11) x1)) r_1)) M1_2)) ∧ (x4 = 0 → (Q (vxV (atN 340 (M1_2.1 305 (phV (M1.1 5 0 11) x1)) r_1) (atN 340 (M1_2.1 306 (phV (M1.1 5 0 11) x1)) r_1) (atN 340 (M1_2.1 307 (phV (M1.1 5 0 11) x1)) r_1) (atN 340 (M1_2.1 308 (phV (M1.1 5 0 11) x1)) r_1)) M1_2)))))) ∧ (x4 ≠ 1 → (T 1 M1)))))) ∧ (hsV (hcV (M1.1 5 0 11) x1 (M1.1 2 (phV (M1.1 5 0 11) x1) 11) x2) x3 (sofV (M1.1 2 (phV (M1.1 5 0 11) x1) 11) (M1.1 301 (phV (M1.1 5 0 11) x1)) x2) = 0 → (T 3 M1)))))) : X_924 x1 x2 x3 x4 M Q T := by
  show Wx 6 924 0 [some (.inr (.inr (9, 0))), some (.inl x1), some (.inl x2), some (.inl x3), some (.inl x4), none, none] [] M (xI Q T)
  refine Wx.path (k := 4) [] (C := []) (pc' := 8) (ls' := [some (.inr (.inr (9, 0))), some (.inl x1), some (.inl x2), some (.inl x3), some (.inl x4), none, none]) (st' := [.inr (.inr (4, 0)), .inr (.inr (5, 0))]) (M' := M) rfl trivial ?_
  refine Wx.call h rfl rfl (by decide) ?_
  rintro _ M1 ⟨rfl, h⟩
  show Wx 6 924 11 [some (.inr (.inr (9, 0))), some (.inl x1), some (.inl x2), some (.inl x3), some (.inl x4), none, none] [] M1 (xI Q T)
  refine Wx.path (k := 5) [] (C := []) (pc' := 18) (ls' := [some (.inr (.inr (9, 0))), some (.inl x1), some (.inl x2), some (.inl x3), some (.inl x4), none, none]) (st' := [.inl x3, .inl x2, .inl x1, .inr (.inr (5, 0))]) (M' := M1) rfl trivial ?_
  refine Wx.call (e506) rfl rfl (by decide) ?_
  rintro v_ M_ ⟨eM_, ev_⟩
  rw [eM_, ev_]
  clear eM_ ev_ v_ M_
  show Wx 6 924 21 [some (.inr (.inr (9, 0))), some (.inl x1), some (.inl x2), some (.inl x3), some (.inl x4), none, none] [.inl (hsV (hcV (M1.1 5 0 11) x1 (M1.1 2 (phV (M1.1 5 0 11) x1) 11) x2) x3 (sofV (M1.1 2 (phV (M1.1 5 0 11) x1) 11) (M1.1 301 (phV (M1.1 5 0 11) x1)) x2))] M1 (xI Q T)
  rcases Decidable.em (hsV (hcV (M1.1 5 0 11) x1 (M1.1 2 (phV (M1.1 5 0 11) x1) 11) x2) x3 (sofV (M1.1 2 (phV (M1.1 5 0 11) x1) 11) (M1.1 301 (phV (M1.1 5 0 11) x1)) x2) = 0) with c_1 | c_1
  · replace h := h.2 c_1
    refine Wx.path (k := 1) [0] (C := [hsV (hcV (M1.1 5 0 11) x1 (M1.1 2 (phV (M1.1 5 0 11) x1) 11) x2) x3 (sofV (M1.1 2 (phV (M1.1 5 0 11) x1) 11) (M1.1 301 (phV (M1.1 5 0 11) x1)) x2) = 0]) (pc' := 24) (ls' := [some (.inr (.inr (9, 0))), some (.inl x1), some (.inl x2), some (.inl x3), some (.inl x4), none, none]) (st' := []) (M' := M1) rfl c_1 ?_
    exact Wx.thr rfl h
  · replace h := h.1 c_1
    refine Wx.path (k := 1) [1] (C := [hsV (hcV (M1.1 5 0 11) x1 (M1.1 2 (phV (M1.1 5 0 11) x1) 11) x2) x3 (sofV (M1.1 2 (phV (M1.1 5 0 11) x1) 11) (M1.1 301 (phV (M1.1 5 0 11) x1)) x2) ≠ 0]) (pc' := 34) (ls' := [some (.inr (.inr (9, 0))), some (.inl x1), some (.inl x2), some (.inl x3), some (.inl x4), none, none]) (st' := []) (M' := M1) rfl c_1 ?_
    refine Wx.path (k := 1) [] (C := []) (pc' := 36) (ls' := [some (.inr (.inr (9, 0))), some (.inl x1), some (.inl x2), some (.inl x3), some (.inl x4), none, none]) (st' := [.inl x4]) (M' := M1) rfl trivial ?_
    rcases Decidable.em (x4 = 0) with c_2 | c_2
    · replace h := h.1 c_2
      refine Wx.path (k := 1) [1] (C := [x4 = 0]) (pc' := 55) (ls' := [some (.inr (.inr (9, 0))), some (.inl x1), some (.inl x2), some (.inl x3), some (.inl x4), none, none]) (st' := []) (M' := M1) rfl c_2 ?_
      refine Wx.path (k := 3) [] (C := []) (pc' := 60) (ls' := [some (.inr (.inr (9, 0))), some (.inl x1), some (.inl x2), some (.inl x3), some (.inl x4), none, none]) (st' := [.inl x1, .inr (.inr (5, 0))]) (M' := M1) rfl trivial ?_
      refine Wx.call (e503) rfl rfl (by decide) ?_
      rintro v_ M_ ⟨eM_, ev_⟩
      rw [eM_, ev_]
      clear eM_ ev_ v_ M_
      show Wx 6 924 63 [some (.inr (.inr (9, 0))), some (.inl x1), some (.inl x2), some (.inl x3), some (.inl x4), none, none] [.inr (.inr (3, (phV (M1.1 5 0 11) x1)))] M1 (xI Q T)
      refine Wx.path (k := 5) [] (C := []) (pc' := 72) (ls' := [some (.inr (.inr (9, 0))), some (.inl x1), some (.inl x2), some (.inl x3), some (.inl x4), some (.inr (.inr (2, (phV (M1.1 5 0 11) x1)))), none]) (st' := [.inl x3, .inl x2, .inr (.inr (2, (phV (M1.1 5 0 11) x1)))]) (M' := M1) rfl trivial ?_
      refine Wx.call h rfl rfl (by decide) ?_
      rintro _ M1_1 ⟨r, rfl, h⟩
      show Wx 6 924 75 [some (.inr (.inr (9, 0))), some (.inl x1), some (.inl x2), some (.inl x3), some (.inl x4), some (.inr (.inr (2, (phV (M1.1 5 0 11) x1)))), none] [.inl r] M1_1 (xI Q T)
      refine Wx.path (k := 2) [] (C := []) (pc' := 79) (ls' := [some (.inr (.inr (9, 0))), some (.inl x1), some (.inl x2), some (.inl x3), some (.inl x4), some (.inr (.inr (2, (phV (M1.1 5 0 11) x1)))), some (.inl r)]) (st' := [.inl x4]) (M' := M1_1) rfl trivial ?_
      rcases Decidable.em (x4 = 0) with c_3 | c_3
      · replace h := h.2 c_3
        refine Wx.path (k := 1) [0] (C := [x4 = 0]) (pc' := 82) (ls' := [some (.inr (.inr (9, 0))), some (.inl x1), some (.inl x2), some (.inl x3), some (.inl x4), some (.inr (.inr (2, (phV (M1.1 5 0 11) x1)))), some (.inl r)]) (st' := []) (M' := M1_1) rfl c_3 ?_
        refine Wx.path (k := 2) [] (C := []) (pc' := 86) (ls' := [some (.inr (.inr (9, 0))), some (.inl x1), some (.inl x2), some (.inl x3), some (.inl x4), some (.inr (.inr (2, (phV (M1.1 5 0 11) x1)))), some (.inl r)]) (st' := [.inl r, .inr (.inr (2, (phV (M1.1 5 0 11) x1)))]) (M' := M1_1) rfl trivial ?_
        refine Wx.call (e216) rfl rfl (by decide) ?_
        rintro v_ M_ ⟨eM_, ev_⟩
        rw [eM_, ev_]
        clear eM_ ev_ v_ M_
        show Wx 6 924 89 [some (.inr (.inr (9, 0))), some (.inl x1), some (.inl x2), some (.inl x3), some (.inl x4), some (.inr (.inr (2, (phV (M1.1 5 0 11) x1)))), some (.inl r)] [.inl (vxV (atN 340 (M1_1.1 305 (phV (M1.1 5 0 11) x1)) r) (atN 340 (M1_1.1 306 (phV (M1.1 5 0 11) x1)) r) (atN 340 (M1_1.1 307 (phV (M1.1 5 0 11) x1)) r) (atN 340 (M1_1.1 308 (phV (M1.1 5 0 11) x1)) r))] M1_1 (xI Q T)
        refine Wx.path (k := 1) [] (C := []) (pc' := 99) (ls' := [some (.inr (.inr (9, 0))), some (.inl x1), some (.inl x2), some (.inl x3), some (.inl x4), some (.inr (.inr (2, (phV (M1.1 5 0 11) x1)))), some (.inl r)]) (st' := [.inl (vxV (atN 340 (M1_1.1 305 (phV (M1.1 5 0 11) x1)) r) (atN 340 (M1_1.1 306 (phV (M1.1 5 0 11) x1)) r) (atN 340 (M1_1.1 307 (phV (M1.1 5 0 11) x1)) r) (atN 340 (M1_1.1 308 (phV (M1.1 5 0 11) x1)) r))]) (M' := M1_1) rfl trivial ?_
        exact Wx.ret rfl ⟨_, rfl, h⟩
      · replace h := h.1 c_3
        refine Wx.path (k := 1) [1] (C := [x4 ≠ 0]) (pc' := 92) (ls' := [some (.inr (.inr (9, 0))), some (.inl x1), some (.inl x2), some (.inl x3), some (.inl x4), some (.inr (.inr (2, (phV (M1.1 5 0 11) x1)))), some (.inl r)]) (st' := []) (M' := M1_1) rfl c_3 ?_
        refine Wx.path (k := 2) [] (C := []) (pc' := 96) (ls' := [some (.inr (.inr (9, 0))), some (.inl x1), some (.inl x2), some (.inl x3), some (.inl x4), some (.inr (.inr (2, (phV (M1.1 5 0 11) x1)))), some (.inl r)]) (st' := [.inl r, .inr (.inr (2, (phV (M1.1 5 0 11) x1)))]) (M' := M1_1) rfl trivial ?_
        refine Wx.call (e217) rfl rfl (by decide) ?_
        rintro v_ M_ ⟨eM_, ev_⟩
        rw [eM_, ev_]
        clear eM_ ev_ v_ M_
        show Wx 6 924 99 [some (.inr (.inr (9, 0))), some (.inl x1), some (.inl x2), some (.inl x3), some (.inl x4), some (.inr (.inr (2, (phV (M1.1 5 0 11) x1)))), some (.inl r)] [.inl (vyV (atN 340 (M1_1.1 305 (phV (M1.1 5 0 11) x1)) r) (atN 340 (M1_1.1 306 (phV (M1.1 5 0 11) x1)) r) (atN 340 (M1_1.1 307 (phV (M1.1 5 0 11) x1)) r) (atN 340 (M1_1.1 308 (phV (M1.1 5 0 11) x1)) r))] M1_1 (xI Q T)
        exact Wx.ret rfl ⟨_, rfl, h⟩
    · replace h := h.2 c_2
      refine Wx.path (k := 1) [0] (C := [x4 ≠ 0]) (pc' := 39) (ls' := [some (.inr (.inr (9, 0))), some (.inl x1), some (.inl x2), some (.inl x3), some (.inl x4), none, none]) (st' := []) (M' := M1) rfl c_2 ?_
      refine Wx.path (k := 2) [] (C := []) (pc' := 42) (ls' := [some (.inr (.inr (9, 0))), some (.inl x1), some (.inl x2), some (.inl x3), some (.inl x4), none, none]) (st' := [.inl 1, .inl x4]) (M' := M1) rfl trivial ?_
      rcases Decidable.em (x4 = 1) with c_4 | c_4
      · replace h := h.1 c_4
        refine Wx.path (k := 1) [1] (C := [x4 = 1]) (pc' := 55) (ls' := [some (.inr (.inr (9, 0))), some (.inl x1), some (.inl x2), some (.inl x3), some (.inl x4), none, none]) (st' := []) (M' := M1) rfl c_4 ?_
        refine Wx.path (k := 3) [] (C := []) (pc' := 60) (ls' := [some (.inr (.inr (9, 0))), some (.inl x1), some (.inl x2), some (.inl x3), some (.inl x4), none, none]) (st' := [.inl x1, .inr (.inr (5, 0))]) (M' := M1) rfl trivial ?_
        refine Wx.call (e503) rfl rfl (by decide) ?_
        rintro v_ M_ ⟨eM_, ev_⟩
        rw [eM_, ev_]
        clear eM_ ev_ v_ M_
        show Wx 6 924 63 [some (.inr (.inr (9, 0))), some (.inl x1), some (.inl x2), some (.inl x3), some (.inl x4), none, none] [.inr (.inr (3, (phV (M1.1 5 0 11) x1)))] M1 (xI Q T)
        refine Wx.path (k := 5) [] (C := []) (pc' := 72) (ls' := [some (.inr (.inr (9, 0))), some (.inl x1), some (.inl x2), some (.inl x3), some (.inl x4), some (.inr (.inr (2, (phV (M1.1 5 0 11) x1)))), none]) (st' := [.inl x3, .inl x2, .inr (.inr (2, (phV (M1.1 5 0 11) x1)))]) (M' := M1) rfl trivial ?_
        refine Wx.call h rfl rfl (by decide) ?_
        rintro _ M1_2 ⟨r_1, rfl, h⟩
        show Wx 6 924 75 [some (.inr (.inr (9, 0))), some (.inl x1), some (.inl x2), some (.inl x3), some (.inl x4), some (.inr (.inr (2, (phV (M1.1 5 0 11) x1)))), none] [.inl r_1] M1_2 (xI Q T)
        refine Wx.path (k := 2) [] (C := []) (pc' := 79) (ls' := [some (.inr (.inr (9, 0))), some (.inl x1), some (.inl x2), some (.inl x3), some (.inl x4), some (.inr (.inr (2, (phV (M1.1 5 0 11) x1)))), some (.inl r_1)]) (st' := [.inl x4]) (M' := M1_2) rfl trivial ?_
        rcases Decidable.em (x4 = 0) with c_5 | c_5
        · replace h := h.2 c_5
          refine Wx.path (k := 1) [0] (C := [x4 = 0]) (pc' := 82) (ls' := [some (.inr (.inr (9, 0))), some (.inl x1), some (.inl x2), some (.inl x3), some (.inl x4), some (.inr (.inr (2, (phV (M1.1 5 0 11) x1)))), some (.inl r_1)]) (st' := []) (M' := M1_2) rfl c_5 ?_
          refine Wx.path (k := 2) [] (C := []) (pc' := 86) (ls' := [some (.inr (.inr (9, 0))), some (.inl x1), some (.inl x2), some (.inl x3), some (.inl x4), some (.inr (.inr (2, (phV (M1.1 5 0 11) x1)))), some (.inl r_1)]) (st' := [.inl r_1, .inr (.inr (2, (phV (M1.1 5 0 11) x1)))]) (M' := M1_2) rfl trivial ?_
          refine Wx.call (e216) rfl rfl (by decide) ?_
          rintro v_ M_ ⟨eM_, ev_⟩
          rw [eM_, ev_]
          clear eM_ ev_ v_ M_
          show Wx 6 924 89 [some (.inr (.inr (9, 0))), some (.inl x1), some (.inl x2), some (.inl x3), some (.inl x4), some (.inr (.inr (2, (phV (M1.1 5 0 11) x1)))), some (.inl r_1)] [.inl (vxV (atN 340 (M1_2.1 305 (phV (M1.1 5 0 11) x1)) r_1) (atN 340 (M1_2.1 306 (phV (M1.1 5 0 11) x1)) r_1) (atN 340 (M1_2.1 307 (phV (M1.1 5 0 11) x1)) r_1) (atN 340 (M1_2.1 308 (phV (M1.1 5 0 11) x1)) r_1))] M1_2 (xI Q T)
          refine Wx.path (k := 1) [] (C := []) (pc' := 99) (ls' := [some (.inr (.inr (9, 0))), some (.inl x1), some (.inl x2), some (.inl x3), some (.inl x4), some (.inr (.inr (2, (phV (M1.1 5 0 11) x1)))), some (.inl r_1)]) (st' := [.inl (vxV (atN 340 (M1_2.1 305 (phV (M1.1 5 0 11) x1)) r_1) (atN 340 (M1_2.1 306 (phV (M1.1 5 0 11) x1)) r_1) (atN 340 (M1_2.1 307 (phV (M1.1 5 0 11) x1)) r_1) (atN 340 (M1_2.1 308 (phV (M1.1 5 0 11) x1)) r_1))]) (M' := M1_2) rfl trivial ?_
          exact Wx.ret rfl ⟨_, rfl, h⟩
        · replace h := h.1 c_5
          refine Wx.path (k := 1) [1] (C := [x4 ≠ 0]) (pc' := 92) (ls' := [some (.inr (.inr (9, 0))), some (.inl x1), some (.inl x2), some (.inl x3), some (.inl x4), some (.inr (.inr (2, (phV (M1.1 5 0 11) x1)))), some (.inl r_1)]) (st' := []) (M' := M1_2) rfl c_5 ?_
          refine Wx.path (k := 2) [] (C := []) (pc' := 96) (ls' := [some (.inr (.inr (9, 0))), some (.inl x1), some (.inl x2), some (.inl x3), some (.inl x4), some (.inr (.inr (2, (phV (M1.1 5 0 11) x1)))), some (.inl r_1)]) (st' := [.inl r_1, .inr (.inr (2, (phV (M1.1 5 0 11) x1)))]) (M' := M1_2) rfl trivial ?_
          refine Wx.call (e217) rfl rfl (by decide) ?_
          rintro v_ M_ ⟨eM_, ev_⟩
          rw [eM_, ev_]
          clear eM_ ev_ v_ M_
          show Wx 6 924 99 [some (.inr (.inr (9, 0))), some (.inl x1), some (.inl x2), some (.inl x3), some (.inl x4), some (.inr (.inr (2, (phV (M1.1 5 0 11) x1)))), some (.inl r_1)] [.inl (vyV (atN 340 (M1_2.1 305 (phV (M1.1 5 0 11) x1)) r_1) (atN 340 (M1_2.1 306 (phV (M1.1 5 0 11) x1)) r_1) (atN 340 (M1_2.1 307 (phV (M1.1 5 0 11) x1)) r_1) (atN 340 (M1_2.1 308 (phV (M1.1 5 0 11) x1)) r_1))] M1_2 (xI Q T)
          exact Wx.ret rfl ⟨_, rfl, h⟩
      · replace h := h.2 c_4
        refine Wx.path (k := 1) [0] (C := [x4 ≠ 1]) (pc' := 45) (ls' := [some (.inr (.inr (9, 0))), some (.inl x1), some (.inl x2), some (.inl x3), some (.inl x4), none, none]) (st' := []) (M' := M1) rfl c_4 ?_
        exact Wx.thr rfl h
/-- X9_origin -/
def X_925 (x1 : Int) (x2 : Int) (x3 : Int) (x4 : Int) (M : Mm) (Q : Int → Mm → Prop) (T : Nat → Mm → Prop) : Prop := Xv 6 925 [.inr (.inr (9, 0)), .inl x1, .inl x2, .inl x3, .inl x4] M (xI Q T)
theorem x_925 {x1 : Int} {x2 : Int} {x3 : Int} {x4 : Int} {M : Mm} {Q : Int → Mm → Prop} {T : Nat → Mm → Prop} (h : (E_502 0 M (fun M1 : Mm => ((hsV (hcV (M1.1 5 0 11) x1 (M1.1 2 (phV (M1.1 5 0 11) x1) 11) x2) x3 (sofV (M1.1 2 (phV (M1.1 5 0 11) x1) 11) (M1.1 301 (phV (M1.1 5 0 11) x1)) x2) ≠ 0 → ((x4 < 0 → (T 1 M1)) ∧ (0 ≤ x4 → ((x4 ≤ 2 → (E_210 (phV (M1.1 5 0 11) x1) x2 x3 M1 (fun (r : Int) (M1_1 : Mm) => (E_523 x1 r x4 M1_1 (fun (r_1 : Int) (M1_2 : Mm) => (Q r_1 M1_2)))))) ∧ (2 < x4 → (T 1 M1)))))) ∧ (hsV (hcV (M1.1 5 0 11) x1 (M1.1 2 (phV (M1.1 5 0 11) x1) 11) x2) x3 (sofV (M1.1 2 (phV (M1.1 5 0 11) x1) 11) (M1.1 301 (phV (M1.1 5 0 11) x1)) x2) = 0 → (T 3 M1)))))) : X_925 x1 x2 x3 x4 M Q T := by
  show Wx 6 925 0 [some (.inr (.inr (9, 0))), some (.inl x1), some (.inl x2), some (.inl x3), some (.inl x4)] [] M (xI Q T)
  refine Wx.path (k := 4) [] (C := []) (pc' := 8) (ls' := [some (.inr (.inr (9, 0))), some (.inl x1), some (.inl x2), some (.inl x3), some (.inl x4)]) (st' := [.inr (.inr (4, 0)), .inr (.inr (5, 0))]) (M' := M) rfl trivial ?_
  refine Wx.call h rfl rfl (by decide) ?_
  rintro _ M1 ⟨rfl, h⟩
  show Wx 6 925 11 [some (.inr (.inr (9, 0))), some (.inl x1), some (.inl x2), some (.inl x3), some (.inl x4)] [] M1 (xI Q T)
  refine Wx.path (k := 5) [] (C := []) (pc' := 18) (ls' := [some (.inr (.inr (9, 0))), some (.inl x1), some (.inl x2), some (.inl x3), some (.inl x4)]) (st' := [.inl x3, .inl x2, .inl x1, .inr (.inr (5, 0))]) (M' := M1) rfl trivial ?_
  refine Wx.call (e506) rfl rfl (by decide) ?_
  rintro v_ M_ ⟨eM_, ev_⟩
  rw [eM_, ev_]
  clear eM_ ev_ v_ M_
  show Wx 6 925 21 [some (.inr (.inr (9, 0))), some (.inl x1), some (.inl x2), some (.inl x3), some (.inl x4)] [.inl (hsV (hcV (M1.1 5 0 11) x1 (M1.1 2 (phV (M1.1 5 0 11) x1) 11) x2) x3 (sofV (M1.1 2 (phV (M1.1 5 0 11) x1) 11) (M1.1 301 (phV (M1.1 5 0 11) x1)) x2))] M1 (xI Q T)
  rcases Decidable.em (hsV (hcV (M1.1 5 0 11) x1 (M1.1 2 (phV (M1.1 5 0 11) x1) 11) x2) x3 (sofV (M1.1 2 (phV (M1.1 5 0 11) x1) 11) (M1.1 301 (phV (M1.1 5 0 11) x1)) x2) = 0) with c_1 | c_1
  · replace h := h.2 c_1
    refine Wx.path (k := 1) [0] (C := [hsV (hcV (M1.1 5 0 11) x1 (M1.1 2 (phV (M1.1 5 0 11) x1) 11) x2) x3 (sofV (M1.1 2 (phV (M1.1 5 0 11) x1) 11) (M1.1 301 (phV (M1.1 5 0 11) x1)) x2) = 0]) (pc' := 24) (ls' := [some (.inr (.inr (9, 0))), some (.inl x1), some (.inl x2), some (.inl x3), some (.inl x4)]) (st' := []) (M' := M1) rfl c_1 ?_
    exact Wx.thr rfl h
  · replace h := h.1 c_1
    refine Wx.path (k := 1) [1] (C := [hsV (hcV (M1.1 5 0 11) x1 (M1.1 2 (phV (M1.1 5 0 11) x1) 11) x2) x3 (sofV (M1.1 2 (phV (M1.1 5 0 11) x1) 11) (M1.1 301 (phV (M1.1 5 0 11) x1)) x2) ≠ 0]) (pc' := 34) (ls' := [some (.inr (.inr (9, 0))), some (.inl x1), some (.inl x2), some (.inl x3), some (.inl x4)]) (st' := []) (M' := M1) rfl c_1 ?_
    refine Wx.path (k := 1) [] (C := []) (pc' := 36) (ls' := [some (.inr (.inr (9, 0))), some (.inl x1), some (.inl x2), some (.inl x3), some (.inl x4)]) (st' := [.inl x4]) (M' := M1) rfl trivial ?_
    rcases Int.lt_or_le (x4) (0) with c_2 | c_2
    · replace h := h.1 c_2
      refine Wx.path (k := 1) [1] (C := [x4 < 0]) (pc' := 45) (ls' := [some (.inr (.inr (9, 0))), some (.inl x1), some (.inl x2), some (.inl x3), some (.inl x4)]) (st' := []) (M' := M1) rfl c_2 ?_
      exact Wx.thr rfl h
    · replace h := h.2 c_2
      refine Wx.path (k := 1) [0] (C := [0 ≤ x4]) (pc' := 39) (ls' := [some (.inr (.inr (9, 0))), some (.inl x1), some (.inl x2), some (.inl x3), some (.inl x4)]) (st' := []) (M' := M1) rfl c_2 ?_
      refine Wx.path (k := 2) [] (C := []) (pc' := 42) (ls' := [some (.inr (.inr (9, 0))), some (.inl x1), some (.inl x2), some (.inl x3), some (.inl x4)]) (st' := [.inl 2, .inl x4]) (M' := M1) rfl trivial ?_
      rcases Int.lt_or_le (2) (x4) with c_3 | c_3
      · replace h := h.2 c_3
        refine Wx.path (k := 1) [0] (C := [2 < x4]) (pc' := 45) (ls' := [some (.inr (.inr (9, 0))), some (.inl x1), some (.inl x2), some (.inl x3), some (.inl x4)]) (st' := []) (M' := M1) rfl c_3 ?_
        exact Wx.thr rfl h
      · replace h := h.1 c_3
        refine Wx.path (k := 1) [1] (C := [x4 ≤ 2]) (pc' := 55) (ls' := [some (.inr (.inr (9, 0))), some (.inl x1), some (.inl x2), some (.inl x3), some (.inl x4)]) (st' := []) (M' := M1) rfl c_3 ?_
        refine Wx.path (k := 6) [] (C := []) (pc' := 65) (ls' := [some (.inr (.inr (9, 0))), some (.inl x1), some (.inl x2), some (.inl x3), some (.inl x4)]) (st' := [.inl x1, .inr (.inr (5, 0)), .inl x1, .inr (.inr (5, 0))]) (M' := M1) rfl trivial ?_
        refine Wx.call (e503) rfl rfl (by decide) ?_
        rintro v_ M_ ⟨eM_, ev_⟩
        rw [eM_, ev_]
        clear eM_ ev_ v_ M_
        show Wx 6 925 68 [some (.inr (.inr (9, 0))), some (.inl x1), some (.inl x2), some (.inl x3), some (.inl x4)] [.inr (.inr (3, (phV (M1.1 5 0 11) x1))), .inl x1, .inr (.inr (5, 0))] M1 (xI Q T)
        refine Wx.path (k := 3) [] (C := []) (pc' := 73) (ls' := [some (.inr (.inr (9, 0))), some (.inl x1), some (.inl x2), some (.inl x3), some (.inl x4)]) (st' := [.inl x3, .inl x2, .inr (.inr (2, (phV (M1.1 5 0 11) x1))), .inl x1, .inr (.inr (5, 0))]) (M' := M1) rfl trivial ?_
        refine Wx.call h rfl rfl (by decide) ?_
        rintro _ M1_1 ⟨r, rfl, h⟩
        show Wx 6 925 76 [some (.inr (.inr (9, 0))), some (.inl x1), some (.inl x2), some (.inl x3), some (.inl x4)] [.inl r, .inl x1, .inr (.inr (5, 0))] M1_1 (xI Q T)
        refine Wx.path (k := 1) [] (C := []) (pc' := 78) (ls' := [some (.inr (.inr (9, 0))), some (.inl x1), some (.inl x2), some (.inl x3), some (.inl x4)]) (st' := [.inl x4, .inl r, .inl x1, .inr (.inr (5, 0))]) (M' := M1_1) rfl trivial ?_
        refine Wx.call h rfl rfl (by decide) ?_
        rintro _ M1_2 ⟨r_1, rfl, h⟩
        show Wx 6 925 81 [some (.inr (.inr (9, 0))), some (.inl x1), some (.inl x2), some (.inl x3), some (.inl x4)] [.inl r_1] M1_2 (xI Q T)
        exact Wx.ret rfl ⟨_, rfl, h⟩
/-- X9_component -/
def X_926 (x1 : Int) (x2 : Int) (x3 : Int) (M : Mm) (Q : Int → Mm → Prop) (T : Nat → Mm → Prop) : Prop := Xv 6 926 [.inr (.inr (9, 0)), .inl x1, .inl x2, .inl x3] M (xI Q T)
theorem x_926 {x1 : Int} {x2 : Int} {x3 : Int} {M : Mm} {Q : Int → Mm → Prop} {T : Nat → Mm → Prop} (h : (E_502 0 M (fun M1 : Mm => ((hpV (M1.1 5 0 11) x1 = 0 → (T 3 M1)) ∧ (hpV (M1.1 5 0 11) x1 ≠ 0 → ((isCellV x2 x3 ≠ 0 → ((0 ≤ x2 ∧ x2 < 12 ∧ 0 ≤ x3 ∧ x3 < 12) ∧ (E_311 (phV (M1.1 5 0 11) x1) (smpV x2 x3) M1 (fun (r : Int) (M1_1 : Mm) => (Q r M1_1))))) ∧ (isCellV x2 x3 = 0 → (T 3 M1)))))))) : X_926 x1 x2 x3 M Q T := by
  show Wx 6 926 0 [some (.inr (.inr (9, 0))), some (.inl x1), some (.inl x2), some (.inl x3)] [] M (xI Q T)
  refine Wx.path (k := 4) [] (C := []) (pc' := 8) (ls' := [some (.inr (.inr (9, 0))), some (.inl x1), some (.inl x2), some (.inl x3)]) (st' := [.inr (.inr (4, 0)), .inr (.inr (5, 0))]) (M' := M) rfl trivial ?_
  refine Wx.call h rfl rfl (by decide) ?_
  rintro _ M1 ⟨rfl, h⟩
  show Wx 6 926 11 [some (.inr (.inr (9, 0))), some (.inl x1), some (.inl x2), some (.inl x3)] [] M1 (xI Q T)
  refine Wx.path (k := 3) [] (C := []) (pc' := 16) (ls' := [some (.inr (.inr (9, 0))), some (.inl x1), some (.inl x2), some (.inl x3)]) (st' := [.inl x1, .inr (.inr (5, 0))]) (M' := M1) rfl trivial ?_
  refine Wx.call (e504) rfl rfl (by decide) ?_
  rintro v_ M_ ⟨eM_, ev_⟩
  rw [eM_, ev_]
  clear eM_ ev_ v_ M_
  show Wx 6 926 19 [some (.inr (.inr (9, 0))), some (.inl x1), some (.inl x2), some (.inl x3)] [.inl (hpV (M1.1 5 0 11) x1)] M1 (xI Q T)
  rcases Decidable.em (hpV (M1.1 5 0 11) x1 = 0) with c_1 | c_1
  · replace h := h.1 c_1
    refine Wx.path (k := 1) [1] (C := [hpV (M1.1 5 0 11) x1 = 0]) (pc' := 30) (ls' := [some (.inr (.inr (9, 0))), some (.inl x1), some (.inl x2), some (.inl x3)]) (st' := []) (M' := M1) rfl c_1 ?_
    exact Wx.thr rfl h
  · replace h := h.2 c_1
    refine Wx.path (k := 1) [0] (C := [hpV (M1.1 5 0 11) x1 ≠ 0]) (pc' := 22) (ls' := [some (.inr (.inr (9, 0))), some (.inl x1), some (.inl x2), some (.inl x3)]) (st' := []) (M' := M1) rfl c_1 ?_
    refine Wx.path (k := 2) [] (C := []) (pc' := 24) (ls' := [some (.inr (.inr (9, 0))), some (.inl x1), some (.inl x2), some (.inl x3)]) (st' := [.inl x3, .inl x2]) (M' := M1) rfl trivial ?_
    refine Wx.call (e935) rfl rfl (by decide) ?_
    rintro v_ M_ ⟨eM_, ev_⟩
    rw [eM_, ev_]
    clear eM_ ev_ v_ M_
    show Wx 6 926 27 [some (.inr (.inr (9, 0))), some (.inl x1), some (.inl x2), some (.inl x3)] [.inl (isCellV x2 x3)] M1 (xI Q T)
    rcases Decidable.em (isCellV x2 x3 = 0) with c_2 | c_2
    · replace h := h.2 c_2
      refine Wx.path (k := 1) [0] (C := [isCellV x2 x3 = 0]) (pc' := 30) (ls' := [some (.inr (.inr (9, 0))), some (.inl x1), some (.inl x2), some (.inl x3)]) (st' := []) (M' := M1) rfl c_2 ?_
      exact Wx.thr rfl h
    · replace h := h.1 c_2
      refine Wx.path (k := 1) [1] (C := [isCellV x2 x3 ≠ 0]) (pc' := 41) (ls' := [some (.inr (.inr (9, 0))), some (.inl x1), some (.inl x2), some (.inl x3)]) (st' := []) (M' := M1) rfl c_2 ?_
      refine Wx.path (k := 3) [] (C := []) (pc' := 46) (ls' := [some (.inr (.inr (9, 0))), some (.inl x1), some (.inl x2), some (.inl x3)]) (st' := [.inl x1, .inr (.inr (5, 0))]) (M' := M1) rfl trivial ?_
      refine Wx.call (e503) rfl rfl (by decide) ?_
      rintro v_ M_ ⟨eM_, ev_⟩
      rw [eM_, ev_]
      clear eM_ ev_ v_ M_
      show Wx 6 926 49 [some (.inr (.inr (9, 0))), some (.inl x1), some (.inl x2), some (.inl x3)] [.inr (.inr (3, (phV (M1.1 5 0 11) x1)))] M1 (xI Q T)
      refine Wx.path (k := 2) [] (C := []) (pc' := 51) (ls' := [some (.inr (.inr (9, 0))), some (.inl x1), some (.inl x2), some (.inl x3)]) (st' := [.inl x3, .inl x2, .inr (.inr (3, (phV (M1.1 5 0 11) x1)))]) (M' := M1) rfl trivial ?_
      refine Wx.call (e936 h.1.1 h.1.2.1 h.1.2.2.1 h.1.2.2.2) rfl rfl (by decide) ?_
      replace h := h.2
      rintro v_ M_ ⟨eM_, ev_⟩
      rw [eM_, ev_]
      clear eM_ ev_ v_ M_
      show Wx 6 926 54 [some (.inr (.inr (9, 0))), some (.inl x1), some (.inl x2), some (.inl x3)] [.inl (smpV x2 x3), .inr (.inr (3, (phV (M1.1 5 0 11) x1)))] M1 (xI Q T)
      refine Wx.call h rfl rfl (by decide) ?_
      rintro _ M1_1 ⟨r, rfl, h⟩
      show Wx 6 926 57 [some (.inr (.inr (9, 0))), some (.inl x1), some (.inl x2), some (.inl x3)] [.inl r] M1_1 (xI Q T)
      exact Wx.ret rfl ⟨_, rfl, h⟩
/-- X9_event -/
def X_928 (x1 : Int) (x2 : Int) (M : Mm) (Q : Int → Mm → Prop) (T : Nat → Mm → Prop) : Prop := Xv 6 928 [.inr (.inr (9, 0)), .inl x1, .inl x2] M (xI Q T)
theorem x_928 {x1 : Int} {x2 : Int} {M : Mm} {Q : Int → Mm → Prop} {T : Nat → Mm → Prop} (h : (E_502 0 M (fun M1 : Mm => ((x1 < 0 → (T 3 M1)) ∧ (0 ≤ x1 → (E_527 M1 (fun (r : Int) (M1_1 : Mm) => ((x1 < r → ((x2 < 0 → (T 1 M1_1)) ∧ (0 ≤ x2 → ((x2 ≤ 6 → (E_529 x1 x2 M1_1 (fun (r_1 : Int) (M1_2 : Mm) => (Q r_1 M1_2)))) ∧ (6 < x2 → (T 1 M1_1)))))) ∧ (r ≤ x1 → (T 3 M1_1)))))))))) : X_928 x1 x2 M Q T := by
  show Wx 6 928 0 [some (.inr (.inr (9, 0))), some (.inl x1), some (.inl x2)] [] M (xI Q T)
  refine Wx.path (k := 4) [] (C := []) (pc' := 8) (ls' := [some (.inr (.inr (9, 0))), some (.inl x1), some (.inl x2)]) (st' := [.inr (.inr (4, 0)), .inr (.inr (5, 0))]) (M' := M) rfl trivial ?_
  refine Wx.call h rfl rfl (by decide) ?_
  rintro _ M1 ⟨rfl, h⟩
  show Wx 6 928 11 [some (.inr (.inr (9, 0))), some (.inl x1), some (.inl x2)] [] M1 (xI Q T)
  refine Wx.path (k := 1) [] (C := []) (pc' := 12) (ls' := [some (.inr (.inr (9, 0))), some (.inl x1), some (.inl x2)]) (st' := [.inl x1]) (M' := M1) rfl trivial ?_
  rcases Int.lt_or_le (x1) (0) with c_1 | c_1
  · replace h := h.1 c_1
    refine Wx.path (k := 1) [1] (C := [x1 < 0]) (pc' := 26) (ls' := [some (.inr (.inr (9, 0))), some (.inl x1), some (.inl x2)]) (st' := []) (M' := M1) rfl c_1 ?_
    exact Wx.thr rfl h
  · replace h := h.2 c_1
    refine Wx.path (k := 1) [0] (C := [0 ≤ x1]) (pc' := 15) (ls' := [some (.inr (.inr (9, 0))), some (.inl x1), some (.inl x2)]) (st' := []) (M' := M1) rfl c_1 ?_
    refine Wx.path (k := 3) [] (C := []) (pc' := 20) (ls' := [some (.inr (.inr (9, 0))), some (.inl x1), some (.inl x2)]) (st' := [.inr (.inr (5, 0)), .inl x1]) (M' := M1) rfl trivial ?_
    refine Wx.call h rfl rfl (by decide) ?_
    rintro _ M1_1 ⟨r, rfl, h⟩
    show Wx 6 928 23 [some (.inr (.inr (9, 0))), some (.inl x1), some (.inl x2)] [.inl r, .inl x1] M1_1 (xI Q T)
    rcases Int.lt_or_le (x1) (r) with c_2 | c_2
    · replace h := h.1 c_2
      refine Wx.path (k := 1) [1] (C := [x1 < r]) (pc' := 37) (ls' := [some (.inr (.inr (9, 0))), some (.inl x1), some (.inl x2)]) (st' := []) (M' := M1_1) rfl c_2 ?_
      refine Wx.path (k := 1) [] (C := []) (pc' := 38) (ls' := [some (.inr (.inr (9, 0))), some (.inl x1), some (.inl x2)]) (st' := [.inl x2]) (M' := M1_1) rfl trivial ?_
      rcases Int.lt_or_le (x2) (0) with c_3 | c_3
      · replace h := h.1 c_3
        refine Wx.path (k := 1) [1] (C := [x2 < 0]) (pc' := 47) (ls' := [some (.inr (.inr (9, 0))), some (.inl x1), some (.inl x2)]) (st' := []) (M' := M1_1) rfl c_3 ?_
        exact Wx.thr rfl h
      · replace h := h.2 c_3
        refine Wx.path (k := 1) [0] (C := [0 ≤ x2]) (pc' := 41) (ls' := [some (.inr (.inr (9, 0))), some (.inl x1), some (.inl x2)]) (st' := []) (M' := M1_1) rfl c_3 ?_
        refine Wx.path (k := 2) [] (C := []) (pc' := 44) (ls' := [some (.inr (.inr (9, 0))), some (.inl x1), some (.inl x2)]) (st' := [.inl 6, .inl x2]) (M' := M1_1) rfl trivial ?_
        rcases Int.lt_or_le (6) (x2) with c_4 | c_4
        · replace h := h.2 c_4
          refine Wx.path (k := 1) [0] (C := [6 < x2]) (pc' := 47) (ls' := [some (.inr (.inr (9, 0))), some (.inl x1), some (.inl x2)]) (st' := []) (M' := M1_1) rfl c_4 ?_
          exact Wx.thr rfl h
        · replace h := h.1 c_4
          refine Wx.path (k := 1) [1] (C := [x2 ≤ 6]) (pc' := 58) (ls' := [some (.inr (.inr (9, 0))), some (.inl x1), some (.inl x2)]) (st' := []) (M' := M1_1) rfl c_4 ?_
          refine Wx.path (k := 4) [] (C := []) (pc' := 64) (ls' := [some (.inr (.inr (9, 0))), some (.inl x1), some (.inl x2)]) (st' := [.inl x2, .inl x1, .inr (.inr (5, 0))]) (M' := M1_1) rfl trivial ?_
          refine Wx.call h rfl rfl (by decide) ?_
          rintro _ M1_2 ⟨r_1, rfl, h⟩
          show Wx 6 928 67 [some (.inr (.inr (9, 0))), some (.inl x1), some (.inl x2)] [.inl r_1] M1_2 (xI Q T)
          exact Wx.ret rfl ⟨_, rfl, h⟩
    · replace h := h.2 c_2
      refine Wx.path (k := 1) [0] (C := [r ≤ x1]) (pc' := 26) (ls' := [some (.inr (.inr (9, 0))), some (.inl x1), some (.inl x2)]) (st' := []) (M' := M1_1) rfl c_2 ?_
      exact Wx.thr rfl h
/-- X9_branch -/
def X_930 (x1 : Int) (x2 : Int) (M : Mm) (Q : Int → Mm → Prop) (T : Nat → Mm → Prop) : Prop := Xv 6 930 [.inr (.inr (9, 0)), .inl x1, .inl x2] M (xI Q T)
theorem x_930 {x1 : Int} {x2 : Int} {M : Mm} {Q : Int → Mm → Prop} {T : Nat → Mm → Prop} (h : (E_502 0 M (fun M1 : Mm => ((x1 < 0 → (T 3 M1)) ∧ (0 ≤ x1 → ((x1 < M1.1 7 0 10 → ((x2 < 0 → (T 1 M1)) ∧ (0 ≤ x2 → ((x2 ≤ 5 → (E_705 x1 x2 M1 (fun (r : Int) (M1_1 : Mm) => (Q r M1_1)))) ∧ (5 < x2 → (T 1 M1)))))) ∧ (M1.1 7 0 10 ≤ x1 → (T 3 M1)))))))) : X_930 x1 x2 M Q T := by
  show Wx 6 930 0 [some (.inr (.inr (9, 0))), some (.inl x1), some (.inl x2)] [] M (xI Q T)
  refine Wx.path (k := 4) [] (C := []) (pc' := 8) (ls' := [some (.inr (.inr (9, 0))), some (.inl x1), some (.inl x2)]) (st' := [.inr (.inr (4, 0)), .inr (.inr (5, 0))]) (M' := M) rfl trivial ?_
  refine Wx.call h rfl rfl (by decide) ?_
  rintro _ M1 ⟨rfl, h⟩
  show Wx 6 930 11 [some (.inr (.inr (9, 0))), some (.inl x1), some (.inl x2)] [] M1 (xI Q T)
  refine Wx.path (k := 1) [] (C := []) (pc' := 12) (ls' := [some (.inr (.inr (9, 0))), some (.inl x1), some (.inl x2)]) (st' := [.inl x1]) (M' := M1) rfl trivial ?_
  rcases Int.lt_or_le (x1) (0) with c_1 | c_1
  · replace h := h.1 c_1
    refine Wx.path (k := 1) [1] (C := [x1 < 0]) (pc' := 29) (ls' := [some (.inr (.inr (9, 0))), some (.inl x1), some (.inl x2)]) (st' := []) (M' := M1) rfl c_1 ?_
    exact Wx.thr rfl h
  · replace h := h.2 c_1
    refine Wx.path (k := 1) [0] (C := [0 ≤ x1]) (pc' := 15) (ls' := [some (.inr (.inr (9, 0))), some (.inl x1), some (.inl x2)]) (st' := []) (M' := M1) rfl c_1 ?_
    refine Wx.path (k := 5) [] (C := []) (pc' := 26) (ls' := [some (.inr (.inr (9, 0))), some (.inl x1), some (.inl x2)]) (st' := [.inl (M1.1 7 0 10), .inl x1]) (M' := M1) rfl trivial ?_
    rcases Int.lt_or_le (x1) (M1.1 7 0 10) with c_2 | c_2
    · replace h := h.1 c_2
      refine Wx.path (k := 1) [1] (C := [x1 < M1.1 7 0 10]) (pc' := 40) (ls' := [some (.inr (.inr (9, 0))), some (.inl x1), some (.inl x2)]) (st' := []) (M' := M1) rfl c_2 ?_
      refine Wx.path (k := 1) [] (C := []) (pc' := 41) (ls' := [some (.inr (.inr (9, 0))), some (.inl x1), some (.inl x2)]) (st' := [.inl x2]) (M' := M1) rfl trivial ?_
      rcases Int.lt_or_le (x2) (0) with c_3 | c_3
      · replace h := h.1 c_3
        refine Wx.path (k := 1) [1] (C := [x2 < 0]) (pc' := 49) (ls' := [some (.inr (.inr (9, 0))), some (.inl x1), some (.inl x2)]) (st' := []) (M' := M1) rfl c_3 ?_
        exact Wx.thr rfl h
      · replace h := h.2 c_3
        refine Wx.path (k := 1) [0] (C := [0 ≤ x2]) (pc' := 44) (ls' := [some (.inr (.inr (9, 0))), some (.inl x1), some (.inl x2)]) (st' := []) (M' := M1) rfl c_3 ?_
        refine Wx.path (k := 2) [] (C := []) (pc' := 46) (ls' := [some (.inr (.inr (9, 0))), some (.inl x1), some (.inl x2)]) (st' := [.inl 5, .inl x2]) (M' := M1) rfl trivial ?_
        rcases Int.lt_or_le (5) (x2) with c_4 | c_4
        · replace h := h.2 c_4
          refine Wx.path (k := 1) [0] (C := [5 < x2]) (pc' := 49) (ls' := [some (.inr (.inr (9, 0))), some (.inl x1), some (.inl x2)]) (st' := []) (M' := M1) rfl c_4 ?_
          exact Wx.thr rfl h
        · replace h := h.1 c_4
          refine Wx.path (k := 1) [1] (C := [x2 ≤ 5]) (pc' := 60) (ls' := [some (.inr (.inr (9, 0))), some (.inl x1), some (.inl x2)]) (st' := []) (M' := M1) rfl c_4 ?_
          refine Wx.path (k := 5) [] (C := []) (pc' := 69) (ls' := [some (.inr (.inr (9, 0))), some (.inl x1), some (.inl x2)]) (st' := [.inl x2, .inl x1, .inr (.inr (7, 0))]) (M' := M1) rfl trivial ?_
          refine Wx.call h rfl rfl (by decide) ?_
          rintro _ M1_1 ⟨r, rfl, h⟩
          show Wx 6 930 72 [some (.inr (.inr (9, 0))), some (.inl x1), some (.inl x2)] [.inl r] M1_1 (xI Q T)
          exact Wx.ret rfl ⟨_, rfl, h⟩
    · replace h := h.2 c_2
      refine Wx.path (k := 1) [0] (C := [M1.1 7 0 10 ≤ x1]) (pc' := 29) (ls' := [some (.inr (.inr (9, 0))), some (.inl x1), some (.inl x2)]) (st' := []) (M' := M1) rfl c_2 ?_
      exact Wx.thr rfl h
/-- X9_clearance -/
def X_931 (x1 : Int) (x2 : Int) (x3 : Int) (x4 : Int) (M : Mm) (Q : Int → Mm → Prop) (T : Nat → Mm → Prop) : Prop := Xv 6 931 [.inr (.inr (9, 0)), .inl x1, .inl x2, .inl x3, .inl x4] M (xI Q T)
theorem x_931 {x1 : Int} {x2 : Int} {x3 : Int} {x4 : Int} {M : Mm} {Q : Int → Mm → Prop} {T : Nat → Mm → Prop} (h : ((isCellV x1 x2 = 0 → (T 3 M)) ∧ (isCellV x1 x2 ≠ 0 → ((isCellV x3 x4 ≠ 0 → (E_502 0 M (fun M1 : Mm => ((0 ≤ x1 ∧ x1 < 12 ∧ 0 ≤ x2 ∧ x2 < 12) ∧ ((0 ≤ x3 ∧ x3 < 12 ∧ 0 ≤ x4 ∧ x4 < 12) ∧ (E_530 (smpV x1 x2) (smpV x3 x4) M1 (fun (r : Int) (M1_1 : Mm) => (Q r M1_1)))))))) ∧ (isCellV x3 x4 = 0 → (T 3 M)))))) : X_931 x1 x2 x3 x4 M Q T := by
  show Wx 6 931 0 [some (.inr (.inr (9, 0))), some (.inl x1), some (.inl x2), some (.inl x3), some (.inl x4)] [] M (xI Q T)
  refine Wx.path (k := 2) [] (C := []) (pc' := 2) (ls' := [some (.inr (.inr (9, 0))), some (.inl x1), some (.inl x2), some (.inl x3), some (.inl x4)]) (st' := [.inl x2, .inl x1]) (M' := M) rfl trivial ?_
  refine Wx.call (e935) rfl rfl (by decide) ?_
  rintro v_ M_ ⟨eM_, ev_⟩
  rw [eM_, ev_]
  clear eM_ ev_ v_ M_
  show Wx 6 931 5 [some (.inr (.inr (9, 0))), some (.inl x1), some (.inl x2), some (.inl x3), some (.inl x4)] [.inl (isCellV x1 x2)] M (xI Q T)
  rcases Decidable.em (isCellV x1 x2 = 0) with c_1 | c_1
  · replace h := h.1 c_1
    refine Wx.path (k := 1) [1] (C := [isCellV x1 x2 = 0]) (pc' := 17) (ls' := [some (.inr (.inr (9, 0))), some (.inl x1), some (.inl x2), some (.inl x3), some (.inl x4)]) (st' := []) (M' := M) rfl c_1 ?_
    exact Wx.thr rfl h
  · replace h := h.2 c_1
    refine Wx.path (k := 1) [0] (C := [isCellV x1 x2 ≠ 0]) (pc' := 8) (ls' := [some (.inr (.inr (9, 0))), some (.inl x1), some (.inl x2), some (.inl x3), some (.inl x4)]) (st' := []) (M' := M) rfl c_1 ?_
    refine Wx.path (k := 2) [] (C := []) (pc' := 11) (ls' := [some (.inr (.inr (9, 0))), some (.inl x1), some (.inl x2), some (.inl x3), some (.inl x4)]) (st' := [.inl x4, .inl x3]) (M' := M) rfl trivial ?_
    refine Wx.call (e935) rfl rfl (by decide) ?_
    rintro v_ M_ ⟨eM_, ev_⟩
    rw [eM_, ev_]
    clear eM_ ev_ v_ M_
    show Wx 6 931 14 [some (.inr (.inr (9, 0))), some (.inl x1), some (.inl x2), some (.inl x3), some (.inl x4)] [.inl (isCellV x3 x4)] M (xI Q T)
    rcases Decidable.em (isCellV x3 x4 = 0) with c_2 | c_2
    · replace h := h.2 c_2
      refine Wx.path (k := 1) [0] (C := [isCellV x3 x4 = 0]) (pc' := 17) (ls' := [some (.inr (.inr (9, 0))), some (.inl x1), some (.inl x2), some (.inl x3), some (.inl x4)]) (st' := []) (M' := M) rfl c_2 ?_
      exact Wx.thr rfl h
    · replace h := h.1 c_2
      refine Wx.path (k := 1) [1] (C := [isCellV x3 x4 ≠ 0]) (pc' := 27) (ls' := [some (.inr (.inr (9, 0))), some (.inl x1), some (.inl x2), some (.inl x3), some (.inl x4)]) (st' := []) (M' := M) rfl c_2 ?_
      refine Wx.path (k := 4) [] (C := []) (pc' := 35) (ls' := [some (.inr (.inr (9, 0))), some (.inl x1), some (.inl x2), some (.inl x3), some (.inl x4)]) (st' := [.inr (.inr (4, 0)), .inr (.inr (5, 0))]) (M' := M) rfl trivial ?_
      refine Wx.call h rfl rfl (by decide) ?_
      rintro _ M1 ⟨rfl, h⟩
      show Wx 6 931 38 [some (.inr (.inr (9, 0))), some (.inl x1), some (.inl x2), some (.inl x3), some (.inl x4)] [] M1 (xI Q T)
      refine Wx.path (k := 4) [] (C := []) (pc' := 44) (ls' := [some (.inr (.inr (9, 0))), some (.inl x1), some (.inl x2), some (.inl x3), some (.inl x4)]) (st' := [.inl x2, .inl x1, .inr (.inr (5, 0))]) (M' := M1) rfl trivial ?_
      refine Wx.call (e936 h.1.1 h.1.2.1 h.1.2.2.1 h.1.2.2.2) rfl rfl (by decide) ?_
      replace h := h.2
      rintro v_ M_ ⟨eM_, ev_⟩
      rw [eM_, ev_]
      clear eM_ ev_ v_ M_
      show Wx 6 931 47 [some (.inr (.inr (9, 0))), some (.inl x1), some (.inl x2), some (.inl x3), some (.inl x4)] [.inl (smpV x1 x2), .inr (.inr (5, 0))] M1 (xI Q T)
      refine Wx.path (k := 2) [] (C := []) (pc' := 50) (ls' := [some (.inr (.inr (9, 0))), some (.inl x1), some (.inl x2), some (.inl x3), some (.inl x4)]) (st' := [.inl x4, .inl x3, .inl (smpV x1 x2), .inr (.inr (5, 0))]) (M' := M1) rfl trivial ?_
      refine Wx.call (e936 h.1.1 h.1.2.1 h.1.2.2.1 h.1.2.2.2) rfl rfl (by decide) ?_
      replace h := h.2
      rintro v_ M_ ⟨eM_, ev_⟩
      rw [eM_, ev_]
      clear eM_ ev_ v_ M_
      show Wx 6 931 53 [some (.inr (.inr (9, 0))), some (.inl x1), some (.inl x2), some (.inl x3), some (.inl x4)] [.inl (smpV x3 x4), .inl (smpV x1 x2), .inr (.inr (5, 0))] M1 (xI Q T)
      refine Wx.call h rfl rfl (by decide) ?_
      rintro _ M1_1 ⟨r, rfl, h⟩
      show Wx 6 931 56 [some (.inr (.inr (9, 0))), some (.inl x1), some (.inl x2), some (.inl x3), some (.inl x4)] [.inl r] M1_1 (xI Q T)
      exact Wx.ret rfl ⟨_, rfl, h⟩
/-- X9_path -/
def X_932 (x1 : Int) (x2 : Int) (x3 : Int) (x4 : Int) (x5 : Int) (M : Mm) (Q : Int → Mm → Prop) (T : Nat → Mm → Prop) : Prop := Xv 6 932 [.inr (.inr (9, 0)), .inl x1, .inl x2, .inl x3, .inl x4, .inl x5] M (xI Q T)
theorem x_932 {x1 : Int} {x2 : Int} {x3 : Int} {x4 : Int} {x5 : Int} {M : Mm} {Q : Int → Mm → Prop} {T : Nat → Mm → Prop} (h : (E_502 0 M (fun M1 : Mm => ((hpV (M1.1 5 0 11) x1 = 0 → (T 3 M1)) ∧ (hpV (M1.1 5 0 11) x1 ≠ 0 → ((isCellV x2 x3 = 0 → (T 3 M1)) ∧ (isCellV x2 x3 ≠ 0 → ((isCellV x4 x5 ≠ 0 → ((0 ≤ x2 ∧ x2 < 12 ∧ 0 ≤ x3 ∧ x3 < 12) ∧ ((0 ≤ x4 ∧ x4 < 12 ∧ 0 ≤ x5 ∧ x5 < 12) ∧ (E_531 x1 (smpV x2 x3) (smpV x4 x5) M1 (fun (r : Int) (M1_1 : Mm) => (Q r M1_1)))))) ∧ (isCellV x4 x5 = 0 → (T 3 M1)))))))))) : X_932 x1 x2 x3 x4 x5 M Q T := by
  show Wx 6 932 0 [some (.inr (.inr (9, 0))), some (.inl x1), some (.inl x2), some (.inl x3), some (.inl x4), some (.inl x5)] [] M (xI Q T)
  refine Wx.path (k := 4) [] (C := []) (pc' := 8) (ls' := [some (.inr (.inr (9, 0))), some (.inl x1), some (.inl x2), some (.inl x3), some (.inl x4), some (.inl x5)]) (st' := [.inr (.inr (4, 0)), .inr (.inr (5, 0))]) (M' := M) rfl trivial ?_
  refine Wx.call h rfl rfl (by decide) ?_
  rintro _ M1 ⟨rfl, h⟩
  show Wx 6 932 11 [some (.inr (.inr (9, 0))), some (.inl x1), some (.inl x2), some (.inl x3), some (.inl x4), some (.inl x5)] [] M1 (xI Q T)
  refine Wx.path (k := 3) [] (C := []) (pc' := 16) (ls' := [some (.inr (.inr (9, 0))), some (.inl x1), some (.inl x2), some (.inl x3), some (.inl x4), some (.inl x5)]) (st' := [.inl x1, .inr (.inr (5, 0))]) (M' := M1) rfl trivial ?_
  refine Wx.call (e504) rfl rfl (by decide) ?_
  rintro v_ M_ ⟨eM_, ev_⟩
  rw [eM_, ev_]
  clear eM_ ev_ v_ M_
  show Wx 6 932 19 [some (.inr (.inr (9, 0))), some (.inl x1), some (.inl x2), some (.inl x3), some (.inl x4), some (.inl x5)] [.inl (hpV (M1.1 5 0 11) x1)] M1 (xI Q T)
  rcases Decidable.em (hpV (M1.1 5 0 11) x1 = 0) with c_1 | c_1
  · replace h := h.1 c_1
    refine Wx.path (k := 1) [1] (C := [hpV (M1.1 5 0 11) x1 = 0]) (pc' := 40) (ls' := [some (.inr (.inr (9, 0))), some (.inl x1), some (.inl x2), some (.inl x3), some (.inl x4), some (.inl x5)]) (st' := []) (M' := M1) rfl c_1 ?_
    exact Wx.thr rfl h
  · replace h := h.2 c_1
    refine Wx.path (k := 1) [0] (C := [hpV (M1.1 5 0 11) x1 ≠ 0]) (pc' := 22) (ls' := [some (.inr (.inr (9, 0))), some (.inl x1), some (.inl x2), some (.inl x3), some (.inl x4), some (.inl x5)]) (st' := []) (M' := M1) rfl c_1 ?_
    refine Wx.path (k := 2) [] (C := []) (pc' := 24) (ls' := [some (.inr (.inr (9, 0))), some (.inl x1), some (.inl x2), some (.inl x3), some (.inl x4), some (.inl x5)]) (st' := [.inl x3, .inl x2]) (M' := M1) rfl trivial ?_
    refine Wx.call (e935) rfl rfl (by decide) ?_
    rintro v_ M_ ⟨eM_, ev_⟩
    rw [eM_, ev_]
    clear eM_ ev_ v_ M_
    show Wx 6 932 27 [some (.inr (.inr (9, 0))), some (.inl x1), some (.inl x2), some (.inl x3), some (.inl x4), some (.inl x5)] [.inl (isCellV x2 x3)] M1 (xI Q T)
    rcases Decidable.em (isCellV x2 x3 = 0) with c_2 | c_2
    · replace h := h.1 c_2
      refine Wx.path (k := 1) [1] (C := [isCellV x2 x3 = 0]) (pc' := 40) (ls' := [some (.inr (.inr (9, 0))), some (.inl x1), some (.inl x2), some (.inl x3), some (.inl x4), some (.inl x5)]) (st' := []) (M' := M1) rfl c_2 ?_
      exact Wx.thr rfl h
    · replace h := h.2 c_2
      refine Wx.path (k := 1) [0] (C := [isCellV x2 x3 ≠ 0]) (pc' := 30) (ls' := [some (.inr (.inr (9, 0))), some (.inl x1), some (.inl x2), some (.inl x3), some (.inl x4), some (.inl x5)]) (st' := []) (M' := M1) rfl c_2 ?_
      refine Wx.path (k := 2) [] (C := []) (pc' := 34) (ls' := [some (.inr (.inr (9, 0))), some (.inl x1), some (.inl x2), some (.inl x3), some (.inl x4), some (.inl x5)]) (st' := [.inl x5, .inl x4]) (M' := M1) rfl trivial ?_
      refine Wx.call (e935) rfl rfl (by decide) ?_
      rintro v_ M_ ⟨eM_, ev_⟩
      rw [eM_, ev_]
      clear eM_ ev_ v_ M_
      show Wx 6 932 37 [some (.inr (.inr (9, 0))), some (.inl x1), some (.inl x2), some (.inl x3), some (.inl x4), some (.inl x5)] [.inl (isCellV x4 x5)] M1 (xI Q T)
      rcases Decidable.em (isCellV x4 x5 = 0) with c_3 | c_3
      · replace h := h.2 c_3
        refine Wx.path (k := 1) [0] (C := [isCellV x4 x5 = 0]) (pc' := 40) (ls' := [some (.inr (.inr (9, 0))), some (.inl x1), some (.inl x2), some (.inl x3), some (.inl x4), some (.inl x5)]) (st' := []) (M' := M1) rfl c_3 ?_
        exact Wx.thr rfl h
      · replace h := h.1 c_3
        refine Wx.path (k := 1) [1] (C := [isCellV x4 x5 ≠ 0]) (pc' := 51) (ls' := [some (.inr (.inr (9, 0))), some (.inl x1), some (.inl x2), some (.inl x3), some (.inl x4), some (.inl x5)]) (st' := []) (M' := M1) rfl c_3 ?_
        refine Wx.path (k := 5) [] (C := []) (pc' := 58) (ls' := [some (.inr (.inr (9, 0))), some (.inl x1), some (.inl x2), some (.inl x3), some (.inl x4), some (.inl x5)]) (st' := [.inl x3, .inl x2, .inl x1, .inr (.inr (5, 0))]) (M' := M1) rfl trivial ?_
        refine Wx.call (e936 h.1.1 h.1.2.1 h.1.2.2.1 h.1.2.2.2) rfl rfl (by decide) ?_
        replace h := h.2
        rintro v_ M_ ⟨eM_, ev_⟩
        rw [eM_, ev_]
        clear eM_ ev_ v_ M_
        show Wx 6 932 61 [some (.inr (.inr (9, 0))), some (.inl x1), some (.inl x2), some (.inl x3), some (.inl x4), some (.inl x5)] [.inl (smpV x2 x3), .inl x1, .inr (.inr (5, 0))] M1 (xI Q T)
        refine Wx.path (k := 2) [] (C := []) (pc' := 65) (ls' := [some (.inr (.inr (9, 0))), some (.inl x1), some (.inl x2), some (.inl x3), some (.inl x4), some (.inl x5)]) (st' := [.inl x5, .inl x4, .inl (smpV x2 x3), .inl x1, .inr (.inr (5, 0))]) (M' := M1) rfl trivial ?_
        refine Wx.call (e936 h.1.1 h.1.2.1 h.1.2.2.1 h.1.2.2.2) rfl rfl (by decide) ?_
        replace h := h.2
        rintro v_ M_ ⟨eM_, ev_⟩
        rw [eM_, ev_]
        clear eM_ ev_ v_ M_
        show Wx 6 932 68 [some (.inr (.inr (9, 0))), some (.inl x1), some (.inl x2), some (.inl x3), some (.inl x4), some (.inl x5)] [.inl (smpV x4 x5), .inl (smpV x2 x3), .inl x1, .inr (.inr (5, 0))] M1 (xI Q T)
        refine Wx.call h rfl rfl (by decide) ?_
        rintro _ M1_1 ⟨r, rfl, h⟩
        show Wx 6 932 71 [some (.inr (.inr (9, 0))), some (.inl x1), some (.inl x2), some (.inl x3), some (.inl x4), some (.inl x5)] [.inl r] M1_1 (xI Q T)
        exact Wx.ret rfl ⟨_, rfl, h⟩
/-- X9_count -/
def X_933 (x1 : Int) (M : Mm) (Q : Int → Mm → Prop) (T : Nat → Mm → Prop) : Prop := Xv 2 933 [.inr (.inr (9, 0)), .inl x1] M (xI Q T)
theorem x_933 {x1 : Int} {M : Mm} {Q : Int → Mm → Prop} {T : Nat → Mm → Prop} (h : ((x1 = 0 → (E_402 0 M (fun (r : Int) (M1 : Mm) => (Q r M1)))) ∧ (x1 = 1 → (Q (M.1 1 0 2) M)) ∧ (x1 = 2 → (Q (M.1 1 0 3) M)) ∧ (x1 = 3 → (Q (M.1 6 0 3) M)) ∧ (x1 ≠ 0 ∧ x1 ≠ 1 ∧ x1 ≠ 2 ∧ x1 ≠ 3 → (T 1 M)))) : X_933 x1 M Q T := by
  show Wx 2 933 0 [some (.inr (.inr (9, 0))), some (.inl x1)] [] M (xI Q T)
  refine Wx.path (k := 1) [] (C := []) (pc' := 1) (ls' := [some (.inr (.inr (9, 0))), some (.inl x1)]) (st' := [.inl x1]) (M' := M) rfl trivial ?_
  rcases Decidable.em (x1 = 0) with c_1 | c_1
  · replace h := h.1 c_1
    refine Wx.path (k := 1) [32] (C := [tswT 1 63 0 3 #[31, 39, 47, 55] x1 = 32]) (pc' := 32) (ls' := [some (.inr (.inr (9, 0))), some (.inl x1)]) (st' := []) (M' := M) rfl (by rw [c_1]; rfl) ?_
    refine Wx.path (k := 2) [] (C := []) (pc' := 36) (ls' := [some (.inr (.inr (9, 0))), some (.inl x1)]) (st' := [.inr (.inr (4, 0))]) (M' := M) rfl trivial ?_
    refine Wx.call h rfl rfl (by decide) ?_
    rintro _ M1 ⟨r, rfl, h⟩
    show Wx 2 933 39 [some (.inr (.inr (9, 0))), some (.inl x1)] [.inl r] M1 (xI Q T)
    exact Wx.ret rfl ⟨_, rfl, h⟩
  replace h := h.2
  rcases Decidable.em (x1 = 1) with c_2 | c_2
  · replace h := h.1 c_2
    refine Wx.path (k := 1) [40] (C := [tswT 1 63 0 3 #[31, 39, 47, 55] x1 = 40]) (pc' := 40) (ls' := [some (.inr (.inr (9, 0))), some (.inl x1)]) (st' := []) (M' := M) rfl (by rw [c_2]; rfl) ?_
    refine Wx.path (k := 3) [] (C := []) (pc' := 47) (ls' := [some (.inr (.inr (9, 0))), some (.inl x1)]) (st' := [.inl (M.1 1 0 2)]) (M' := M) rfl trivial ?_
    exact Wx.ret rfl ⟨_, rfl, h⟩
  replace h := h.2
  rcases Decidable.em (x1 = 2) with c_3 | c_3
  · replace h := h.1 c_3
    refine Wx.path (k := 1) [48] (C := [tswT 1 63 0 3 #[31, 39, 47, 55] x1 = 48]) (pc' := 48) (ls' := [some (.inr (.inr (9, 0))), some (.inl x1)]) (st' := []) (M' := M) rfl (by rw [c_3]; rfl) ?_
    refine Wx.path (k := 3) [] (C := []) (pc' := 55) (ls' := [some (.inr (.inr (9, 0))), some (.inl x1)]) (st' := [.inl (M.1 1 0 3)]) (M' := M) rfl trivial ?_
    exact Wx.ret rfl ⟨_, rfl, h⟩
  replace h := h.2
  rcases Decidable.em (x1 = 3) with c_4 | c_4
  · replace h := h.1 c_4
    refine Wx.path (k := 1) [56] (C := [tswT 1 63 0 3 #[31, 39, 47, 55] x1 = 56]) (pc' := 56) (ls' := [some (.inr (.inr (9, 0))), some (.inl x1)]) (st' := []) (M' := M) rfl (by rw [c_4]; rfl) ?_
    refine Wx.path (k := 3) [] (C := []) (pc' := 63) (ls' := [some (.inr (.inr (9, 0))), some (.inl x1)]) (st' := [.inl (M.1 6 0 3)]) (M' := M) rfl trivial ?_
    exact Wx.ret rfl ⟨_, rfl, h⟩
  replace h := h.2
  replace h := h ⟨c_1, c_2, c_3, c_4⟩
  refine Wx.path (k := 1) [64] (C := [tswT 1 63 0 3 #[31, 39, 47, 55] x1 = 64]) (pc' := 64) (ls' := [some (.inr (.inr (9, 0))), some (.inl x1)]) (st' := []) (M' := M) rfl ((tsw_d (by omega)).trans rfl) ?_
  exact Wx.thr rfl h

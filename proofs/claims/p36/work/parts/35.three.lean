/-! printed contracts: three small methods, with their values -/
/-- X2_cellsAround -/
def E_207 (i0 : Nat) (x1 : Int) (x2 : Int) (M : Mm) (Q : Int → Mm → Prop) : Prop := Ev 1 207 [.inr (.inr (3, i0)), .inl x1, .inl x2] M (rI Q)
theorem m_207 {i0 : Nat} {x1 : Int} {x2 : Int} {M : Mm} {Q Q1 : Int → Mm → Prop} (h : E_207 i0 x1 x2 M Q) (k : (∀ r M1, Q r M1 → Q1 r M1)) : E_207 i0 x1 x2 M Q1 := Ev.mono h (fun v M1 ⟨r, h1, h2⟩ => ⟨r, h1, k _ _ h2⟩)
theorem s_207_0 {i0 : Nat} {x1 : Int} {x2 : Int} {M : Mm} {Q : Int → Mm → Prop} (h : ((-2147483648 ≤ x1 - 1 ∧ x1 - 1 ≤ 2147483647) ∧ (-2147483648 ≤ x2 - 1 ∧ x2 - 1 ≤ 2147483647)) ∧ (∀ b : Int, b = (if covV (M.2 401 i0) (x1 - 1) (x2 - 1) = 0 then 0 else 1) → (((-2147483648 ≤ x2 - 1 ∧ x2 - 1 ≤ 2147483647)) ∧ (∀ b_1 : Int, b_1 = (if covV (M.2 401 i0) x1 (x2 - 1) = 0 then 0 else 1) → (((-2147483648 ≤ b + b_1 ∧ b + b_1 ≤ 2147483647) ∧ (-2147483648 ≤ x1 - 1 ∧ x1 - 1 ≤ 2147483647)) ∧ (∀ b_2 : Int, b_2 = (if covV (M.2 401 i0) (x1 - 1) x2 = 0 then 0 else 1) → (((-2147483648 ≤ (b + b_1) + b_2 ∧ (b + b_1) + b_2 ≤ 2147483647)) ∧ (∀ b_3 : Int, b_3 = (if covV (M.2 401 i0) x1 x2 = 0 then 0 else 1) → (((-2147483648 ≤ ((b + b_1) + b_2) + b_3 ∧ ((b + b_1) + b_2) + b_3 ≤ 2147483647)) ∧ (Q (((b + b_1) + b_2) + b_3) M)))))))))) : E_207 i0 x1 x2 M Q := by
  show Wp 1 207 0 [some (.inr (.inr (3, i0))), some (.inl x1), some (.inl x2)] [] M (rI Q)
  refine Wp.path (k := 7) [] (C := [inR (x1 - 1), inR (x2 - 1)]) (pc' := 7) (ls' := [some (.inr (.inr (3, i0))), some (.inl x1), some (.inl x2)]) (st' := [.inl (x2 - 1), .inl (x1 - 1), .inr (.inr (3, i0))]) (M' := M) rfl ⟨h.1.1, h.1.2⟩ ?_
  replace h := h.2
  refine Wp.call (e301) rfl rfl (by decide) ?_
  rintro v_ M_ ⟨eM_, ev_⟩
  rw [eM_, ev_]
  clear eM_ ev_ v_ M_
  show Wp 1 207 10 [some (.inr (.inr (3, i0))), some (.inl x1), some (.inl x2)] [.inl (covV (M.2 401 i0) (x1 - 1) (x2 - 1))] M (rI Q)
  have k_7 : ∀ b : Int, b = (if covV (M.2 401 i0) (x1 - 1) (x2 - 1) = 0 then 0 else 1) → Wp 1 207 18 [some (.inr (.inr (3, i0))), some (.inl x1), some (.inl x2)] [.inl b] M (rI Q) := by
    intro b e_b
    replace h := h b e_b
    refine Wp.path (k := 5) [] (C := [inR (x2 - 1)]) (pc' := 23) (ls' := [some (.inr (.inr (3, i0))), some (.inl x1), some (.inl x2)]) (st' := [.inl (x2 - 1), .inl x1, .inr (.inr (3, i0)), .inl b]) (M' := M) rfl h.1 ?_
    replace h := h.2
    refine Wp.call (e301) rfl rfl (by decide) ?_
    rintro v_ M_ ⟨eM_, ev_⟩
    rw [eM_, ev_]
    clear eM_ ev_ v_ M_
    show Wp 1 207 26 [some (.inr (.inr (3, i0))), some (.inl x1), some (.inl x2)] [.inl (covV (M.2 401 i0) x1 (x2 - 1)), .inl b] M (rI Q)
    have k_5 : ∀ b_1 : Int, b_1 = (if covV (M.2 401 i0) x1 (x2 - 1) = 0 then 0 else 1) → Wp 1 207 34 [some (.inr (.inr (3, i0))), some (.inl x1), some (.inl x2)] [.inl b_1, .inl b] M (rI Q) := by
      intro b_1 e_b_1
      replace h := h b_1 e_b_1
      refine Wp.path (k := 6) [] (C := [inR (b + b_1), inR (x1 - 1)]) (pc' := 40) (ls' := [some (.inr (.inr (3, i0))), some (.inl x1), some (.inl x2)]) (st' := [.inl x2, .inl (x1 - 1), .inr (.inr (3, i0)), .inl (b + b_1)]) (M' := M) rfl ⟨h.1.1, h.1.2⟩ ?_
      replace h := h.2
      refine Wp.call (e301) rfl rfl (by decide) ?_
      rintro v_ M_ ⟨eM_, ev_⟩
      rw [eM_, ev_]
      clear eM_ ev_ v_ M_
      show Wp 1 207 43 [some (.inr (.inr (3, i0))), some (.inl x1), some (.inl x2)] [.inl (covV (M.2 401 i0) (x1 - 1) x2), .inl (b + b_1)] M (rI Q)
      have k_3 : ∀ b_2 : Int, b_2 = (if covV (M.2 401 i0) (x1 - 1) x2 = 0 then 0 else 1) → Wp 1 207 51 [some (.inr (.inr (3, i0))), some (.inl x1), some (.inl x2)] [.inl b_2, .inl (b + b_1)] M (rI Q) := by
        intro b_2 e_b_2
        replace h := h b_2 e_b_2
        refine Wp.path (k := 4) [] (C := [inR ((b + b_1) + b_2)]) (pc' := 55) (ls' := [some (.inr (.inr (3, i0))), some (.inl x1), some (.inl x2)]) (st' := [.inl x2, .inl x1, .inr (.inr (3, i0)), .inl ((b + b_1) + b_2)]) (M' := M) rfl h.1 ?_
        replace h := h.2
        refine Wp.call (e301) rfl rfl (by decide) ?_
        rintro v_ M_ ⟨eM_, ev_⟩
        rw [eM_, ev_]
        clear eM_ ev_ v_ M_
        show Wp 1 207 58 [some (.inr (.inr (3, i0))), some (.inl x1), some (.inl x2)] [.inl (covV (M.2 401 i0) x1 x2), .inl ((b + b_1) + b_2)] M (rI Q)
        have k_1 : ∀ b_3 : Int, b_3 = (if covV (M.2 401 i0) x1 x2 = 0 then 0 else 1) → Wp 1 207 66 [some (.inr (.inr (3, i0))), some (.inl x1), some (.inl x2)] [.inl b_3, .inl ((b + b_1) + b_2)] M (rI Q) := by
          intro b_3 e_b_3
          replace h := h b_3 e_b_3
          refine Wp.path (k := 1) [] (C := [inR (((b + b_1) + b_2) + b_3)]) (pc' := 67) (ls' := [some (.inr (.inr (3, i0))), some (.inl x1), some (.inl x2)]) (st' := [.inl (((b + b_1) + b_2) + b_3)]) (M' := M) rfl h.1 ?_
          replace h := h.2
          exact Wp.ret rfl ⟨_, rfl, h⟩
        clear h
        rcases Decidable.em (covV (M.2 401 i0) x1 x2 = 0) with c_2 | c_2
        · refine Wp.path (k := 1) [1] (C := [covV (M.2 401 i0) x1 x2 = 0]) (pc' := 65) (ls' := [some (.inr (.inr (3, i0))), some (.inl x1), some (.inl x2)]) (st' := [.inl ((b + b_1) + b_2)]) (M' := M) rfl c_2 ?_
          refine Wp.path (k := 1) [] (C := []) (pc' := 66) (ls' := [some (.inr (.inr (3, i0))), some (.inl x1), some (.inl x2)]) (st' := [.inl 0, .inl ((b + b_1) + b_2)]) (M' := M) rfl trivial ?_
          exact k_1 _ (by rw [if_pos c_2])
        · refine Wp.path (k := 1) [0] (C := [covV (M.2 401 i0) x1 x2 ≠ 0]) (pc' := 61) (ls' := [some (.inr (.inr (3, i0))), some (.inl x1), some (.inl x2)]) (st' := [.inl ((b + b_1) + b_2)]) (M' := M) rfl c_2 ?_
          refine Wp.path (k := 2) [] (C := []) (pc' := 66) (ls' := [some (.inr (.inr (3, i0))), some (.inl x1), some (.inl x2)]) (st' := [.inl 1, .inl ((b + b_1) + b_2)]) (M' := M) rfl trivial ?_
          exact k_1 _ (by rw [if_neg c_2])
      clear h
      rcases Decidable.em (covV (M.2 401 i0) (x1 - 1) x2 = 0) with c_4 | c_4
      · refine Wp.path (k := 1) [1] (C := [covV (M.2 401 i0) (x1 - 1) x2 = 0]) (pc' := 50) (ls' := [some (.inr (.inr (3, i0))), some (.inl x1), some (.inl x2)]) (st' := [.inl (b + b_1)]) (M' := M) rfl c_4 ?_
        refine Wp.path (k := 1) [] (C := []) (pc' := 51) (ls' := [some (.inr (.inr (3, i0))), some (.inl x1), some (.inl x2)]) (st' := [.inl 0, .inl (b + b_1)]) (M' := M) rfl trivial ?_
        exact k_3 _ (by rw [if_pos c_4])
      · refine Wp.path (k := 1) [0] (C := [covV (M.2 401 i0) (x1 - 1) x2 ≠ 0]) (pc' := 46) (ls' := [some (.inr (.inr (3, i0))), some (.inl x1), some (.inl x2)]) (st' := [.inl (b + b_1)]) (M' := M) rfl c_4 ?_
        refine Wp.path (k := 2) [] (C := []) (pc' := 51) (ls' := [some (.inr (.inr (3, i0))), some (.inl x1), some (.inl x2)]) (st' := [.inl 1, .inl (b + b_1)]) (M' := M) rfl trivial ?_
        exact k_3 _ (by rw [if_neg c_4])
    clear h
    rcases Decidable.em (covV (M.2 401 i0) x1 (x2 - 1) = 0) with c_6 | c_6
    · refine Wp.path (k := 1) [1] (C := [covV (M.2 401 i0) x1 (x2 - 1) = 0]) (pc' := 33) (ls' := [some (.inr (.inr (3, i0))), some (.inl x1), some (.inl x2)]) (st' := [.inl b]) (M' := M) rfl c_6 ?_
      refine Wp.path (k := 1) [] (C := []) (pc' := 34) (ls' := [some (.inr (.inr (3, i0))), some (.inl x1), some (.inl x2)]) (st' := [.inl 0, .inl b]) (M' := M) rfl trivial ?_
      exact k_5 _ (by rw [if_pos c_6])
    · refine Wp.path (k := 1) [0] (C := [covV (M.2 401 i0) x1 (x2 - 1) ≠ 0]) (pc' := 29) (ls' := [some (.inr (.inr (3, i0))), some (.inl x1), some (.inl x2)]) (st' := [.inl b]) (M' := M) rfl c_6 ?_
      refine Wp.path (k := 2) [] (C := []) (pc' := 34) (ls' := [some (.inr (.inr (3, i0))), some (.inl x1), some (.inl x2)]) (st' := [.inl 1, .inl b]) (M' := M) rfl trivial ?_
      exact k_5 _ (by rw [if_neg c_6])
  clear h
  rcases Decidable.em (covV (M.2 401 i0) (x1 - 1) (x2 - 1) = 0) with c_8 | c_8
  · refine Wp.path (k := 1) [1] (C := [covV (M.2 401 i0) (x1 - 1) (x2 - 1) = 0]) (pc' := 17) (ls' := [some (.inr (.inr (3, i0))), some (.inl x1), some (.inl x2)]) (st' := []) (M' := M) rfl c_8 ?_
    refine Wp.path (k := 1) [] (C := []) (pc' := 18) (ls' := [some (.inr (.inr (3, i0))), some (.inl x1), some (.inl x2)]) (st' := [.inl 0]) (M' := M) rfl trivial ?_
    exact k_7 _ (by rw [if_pos c_8])
  · refine Wp.path (k := 1) [0] (C := [covV (M.2 401 i0) (x1 - 1) (x2 - 1) ≠ 0]) (pc' := 13) (ls' := [some (.inr (.inr (3, i0))), some (.inl x1), some (.inl x2)]) (st' := []) (M' := M) rfl c_8 ?_
    refine Wp.path (k := 2) [] (C := []) (pc' := 18) (ls' := [some (.inr (.inr (3, i0))), some (.inl x1), some (.inl x2)]) (st' := [.inl 1]) (M' := M) rfl trivial ?_
    exact k_7 _ (by rw [if_neg c_8])
theorem o1_bd (v : Int) : 0 ≤ o1 v ∧ o1 v ≤ 1 := by
  unfold o1
  split <;> omega
theorem e207 {i : Nat} {x y : Int} {M : Mm} (hx : -1000 ≤ x) (hx1 : x ≤ 1000) (hy : -1000 ≤ y) (hy1 : y ≤ 1000) : Ev 1 207 [.inr (.inr (3, i)), .inl x, .inl y] M (fun v M' => M' = M ∧ v = some (.inl (arV (M.2 401 i) x y))) := by
  have k : E_207 i x y M (fun r M1 => M1 = M ∧ r = arV (M.2 401 i) x y) := by
    have o1b := o1_bd (covV (M.2 401 i) (x - 1) (y - 1))
    have o2b := o1_bd (covV (M.2 401 i) x (y - 1))
    have o3b := o1_bd (covV (M.2 401 i) (x - 1) y)
    have o4b := o1_bd (covV (M.2 401 i) x y)
    refine s_207_0 ⟨⟨by omega, by omega⟩, fun b (e : b = o1 _) => ⟨by omega, fun b1 (e1 : b1 = o1 _) => ⟨⟨by omega, by omega⟩, fun b2 (e2 : b2 = o1 _) => ⟨by omega, fun b3 (e3 : b3 = o1 _) => ⟨by omega, rfl, by rw [e, e1, e2, e3]; rfl⟩⟩⟩⟩⟩
  exact Ev.mono k (fun v M' ⟨r, h1, h2, h3⟩ => ⟨h2, by rw [h1, h3]⟩)

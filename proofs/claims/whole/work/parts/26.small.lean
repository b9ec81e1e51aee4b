/-! the class: its smallest methods -/
def b2i (b : Bool) : Int := bif b then 1 else 0
def atV (M : Mm) (t i : Nat) (j : Int) : Int := if 0 ≤ j ∧ j < aL t then M.1 t i j.toNat else 0
def putM (M : Mm) (t i : Nat) (j v : Int) : Mm := if 0 ≤ j ∧ j < aL t then setI M t i j.toNat v else M
def hasV (M : Mm) (i : Nat) (x y : Int) : Int := if 0 ≤ x ∧ x < 12 ∧ 0 ≤ y ∧ y < 12 then (if ian (isr (M.1 500 i y.toNat) x) 1 = 0 then 0 else 1) else 0
theorem e401 {i : Nat} {x y : Int} {M : Mm}  : Ev 0 401 [.inr (.inr (4, i)), .inl x, .inl y] M (fun v M' => M' = M ∧ v = some (.inl (hasV M i x y))) := by
  show Wp 0 401 0 [some (.inr (.inr (4, i))), some (.inl x), some (.inl y)] [] M _
  rcases Int.lt_or_le (x) (0) with c_1 | c_1
  ·
    refine Wp.path (k := 2) [1] (C := [x < 0]) (pc' := 40) (ls' := [some (.inr (.inr (4, i))), some (.inl x), some (.inl y)]) (st' := []) (M' := M) rfl c_1 ?_
    refine Wp.path (k := 1) [] (C := []) (pc' := 41) (ls' := [some (.inr (.inr (4, i))), some (.inl x), some (.inl y)]) (st' := [.inl 0]) (M' := M) rfl trivial ?_
    exact Wp.ret rfl (⟨rfl, by unfold hasV; (repeat' split) <;> first | rfl | (exfalso; omega)⟩)
  ·
    refine Wp.path (k := 2) [0] (C := [0 ≤ x]) (pc' := 4) (ls' := [some (.inr (.inr (4, i))), some (.inl x), some (.inl y)]) (st' := []) (M' := M) rfl c_1 ?_
    rcases Int.lt_or_le (x) (12) with c_2 | c_2
    ·
      refine Wp.path (k := 3) [0] (C := [x < 12]) (pc' := 10) (ls' := [some (.inr (.inr (4, i))), some (.inl x), some (.inl y)]) (st' := []) (M' := M) rfl c_2 ?_
      rcases Int.lt_or_le (y) (0) with c_3 | c_3
      ·
        refine Wp.path (k := 2) [1] (C := [y < 0]) (pc' := 40) (ls' := [some (.inr (.inr (4, i))), some (.inl x), some (.inl y)]) (st' := []) (M' := M) rfl c_3 ?_
        refine Wp.path (k := 1) [] (C := []) (pc' := 41) (ls' := [some (.inr (.inr (4, i))), some (.inl x), some (.inl y)]) (st' := [.inl 0]) (M' := M) rfl trivial ?_
        exact Wp.ret rfl (⟨rfl, by unfold hasV; (repeat' split) <;> first | rfl | (exfalso; omega)⟩)
      ·
        refine Wp.path (k := 2) [0] (C := [0 ≤ y]) (pc' := 14) (ls' := [some (.inr (.inr (4, i))), some (.inl x), some (.inl y)]) (st' := []) (M' := M) rfl c_3 ?_
        rcases Int.lt_or_le (y) (12) with c_4 | c_4
        ·
          refine Wp.path (k := 5) [0] (C := [y < 12]) (pc' := 23) (ls' := [some (.inr (.inr (4, i))), some (.inl x), some (.inl y)]) (st' := []) (M' := M) rfl c_4 ?_
          rcases Decidable.em (ian (isr (M.1 500 i y.toNat) x) 1 = 0) with c_5 | c_5
          ·
            refine Wp.path (k := 9) [1] (C := [0 ≤ y ∧ y < 12, ian (isr (M.1 500 i y.toNat) x) 1 = 0]) (pc' := 40) (ls' := [some (.inr (.inr (4, i))), some (.inl x), some (.inl y)]) (st' := []) (M' := M) rfl ⟨⟨by omega, by omega⟩, c_5⟩ ?_
            refine Wp.path (k := 1) [] (C := []) (pc' := 41) (ls' := [some (.inr (.inr (4, i))), some (.inl x), some (.inl y)]) (st' := [.inl 0]) (M' := M) rfl trivial ?_
            exact Wp.ret rfl (⟨rfl, by unfold hasV; (repeat' split) <;> first | rfl | (exfalso; omega)⟩)
          ·
            refine Wp.path (k := 9) [0] (C := [0 ≤ y ∧ y < 12, ian (isr (M.1 500 i y.toNat) x) 1 ≠ 0]) (pc' := 36) (ls' := [some (.inr (.inr (4, i))), some (.inl x), some (.inl y)]) (st' := []) (M' := M) rfl ⟨⟨by omega, by omega⟩, c_5⟩ ?_
            refine Wp.path (k := 2) [] (C := []) (pc' := 41) (ls' := [some (.inr (.inr (4, i))), some (.inl x), some (.inl y)]) (st' := [.inl 1]) (M' := M) rfl trivial ?_
            exact Wp.ret rfl (⟨rfl, by unfold hasV; (repeat' split) <;> first | rfl | (exfalso; omega)⟩)
        ·
          refine Wp.path (k := 5) [1] (C := [12 ≤ y]) (pc' := 40) (ls' := [some (.inr (.inr (4, i))), some (.inl x), some (.inl y)]) (st' := []) (M' := M) rfl c_4 ?_
          refine Wp.path (k := 1) [] (C := []) (pc' := 41) (ls' := [some (.inr (.inr (4, i))), some (.inl x), some (.inl y)]) (st' := [.inl 0]) (M' := M) rfl trivial ?_
          exact Wp.ret rfl (⟨rfl, by unfold hasV; (repeat' split) <;> first | rfl | (exfalso; omega)⟩)
    ·
      refine Wp.path (k := 3) [1] (C := [12 ≤ x]) (pc' := 40) (ls' := [some (.inr (.inr (4, i))), some (.inl x), some (.inl y)]) (st' := []) (M' := M) rfl c_2 ?_
      refine Wp.path (k := 1) [] (C := []) (pc' := 41) (ls' := [some (.inr (.inr (4, i))), some (.inl x), some (.inl y)]) (st' := [.inl 0]) (M' := M) rfl trivial ?_
      exact Wp.ret rfl (⟨rfl, by unfold hasV; (repeat' split) <;> first | rfl | (exfalso; omega)⟩)
def isCellV (x y : Int) : Int := if 0 ≤ x ∧ x < 12 ∧ 0 ≤ y ∧ y < 12 then 1 else 0
theorem e935 {x y : Int} {M : Mm}  : Ev 0 935 [.inl x, .inl y] M (fun v M' => M' = M ∧ v = some (.inl (isCellV x y))) := by
  show Wp 0 935 0 [some (.inl x), some (.inl y)] [] M _
  rcases Int.lt_or_le (x) (0) with c_1 | c_1
  ·
    refine Wp.path (k := 2) [1] (C := [x < 0]) (pc' := 24) (ls' := [some (.inl x), some (.inl y)]) (st' := []) (M' := M) rfl c_1 ?_
    refine Wp.path (k := 1) [] (C := []) (pc' := 25) (ls' := [some (.inl x), some (.inl y)]) (st' := [.inl 0]) (M' := M) rfl trivial ?_
    exact Wp.ret rfl (⟨rfl, by unfold isCellV; (repeat' split) <;> first | rfl | (exfalso; omega)⟩)
  ·
    refine Wp.path (k := 2) [0] (C := [0 ≤ x]) (pc' := 4) (ls' := [some (.inl x), some (.inl y)]) (st' := []) (M' := M) rfl c_1 ?_
    rcases Int.lt_or_le (x) (12) with c_2 | c_2
    ·
      refine Wp.path (k := 3) [0] (C := [x < 12]) (pc' := 10) (ls' := [some (.inl x), some (.inl y)]) (st' := []) (M' := M) rfl c_2 ?_
      rcases Int.lt_or_le (y) (0) with c_3 | c_3
      ·
        refine Wp.path (k := 2) [1] (C := [y < 0]) (pc' := 24) (ls' := [some (.inl x), some (.inl y)]) (st' := []) (M' := M) rfl c_3 ?_
        refine Wp.path (k := 1) [] (C := []) (pc' := 25) (ls' := [some (.inl x), some (.inl y)]) (st' := [.inl 0]) (M' := M) rfl trivial ?_
        exact Wp.ret rfl (⟨rfl, by unfold isCellV; (repeat' split) <;> first | rfl | (exfalso; omega)⟩)
      ·
        refine Wp.path (k := 2) [0] (C := [0 ≤ y]) (pc' := 14) (ls' := [some (.inl x), some (.inl y)]) (st' := []) (M' := M) rfl c_3 ?_
        rcases Int.lt_or_le (y) (12) with c_4 | c_4
        ·
          refine Wp.path (k := 3) [0] (C := [y < 12]) (pc' := 20) (ls' := [some (.inl x), some (.inl y)]) (st' := []) (M' := M) rfl c_4 ?_
          refine Wp.path (k := 2) [] (C := []) (pc' := 25) (ls' := [some (.inl x), some (.inl y)]) (st' := [.inl 1]) (M' := M) rfl trivial ?_
          exact Wp.ret rfl (⟨rfl, by unfold isCellV; (repeat' split) <;> first | rfl | (exfalso; omega)⟩)
        ·
          refine Wp.path (k := 3) [1] (C := [12 ≤ y]) (pc' := 24) (ls' := [some (.inl x), some (.inl y)]) (st' := []) (M' := M) rfl c_4 ?_
          refine Wp.path (k := 1) [] (C := []) (pc' := 25) (ls' := [some (.inl x), some (.inl y)]) (st' := [.inl 0]) (M' := M) rfl trivial ?_
          exact Wp.ret rfl (⟨rfl, by unfold isCellV; (repeat' split) <;> first | rfl | (exfalso; omega)⟩)
    ·
      refine Wp.path (k := 3) [1] (C := [12 ≤ x]) (pc' := 24) (ls' := [some (.inl x), some (.inl y)]) (st' := []) (M' := M) rfl c_2 ?_
      refine Wp.path (k := 1) [] (C := []) (pc' := 25) (ls' := [some (.inl x), some (.inl y)]) (st' := [.inl 0]) (M' := M) rfl trivial ?_
      exact Wp.ret rfl (⟨rfl, by unfold isCellV; (repeat' split) <;> first | rfl | (exfalso; omega)⟩)
def stepXV (d : Int) : Int := if d = 0 then 1 else if d = 2 then -1 else 0
theorem e939 {d : Int} {M : Mm}  : Ev 0 939 [.inl d] M (fun v M' => M' = M ∧ v = some (.inl (stepXV d))) := by
  show Wp 0 939 0 [some (.inl d)] [] M _
  rcases Decidable.em (d = 0) with c_1 | c_1
  ·
    refine Wp.path (k := 2) [0] (C := [d = 0]) (pc' := 4) (ls' := [some (.inl d)]) (st' := []) (M' := M) rfl c_1 ?_
    refine Wp.path (k := 2) [] (C := []) (pc' := 18) (ls' := [some (.inl d)]) (st' := [.inl 1]) (M' := M) rfl trivial ?_
    exact Wp.ret rfl (⟨rfl, by unfold stepXV; (repeat' split) <;> first | rfl | (exfalso; omega)⟩)
  ·
    refine Wp.path (k := 2) [1] (C := [d ≠ 0]) (pc' := 8) (ls' := [some (.inl d)]) (st' := []) (M' := M) rfl c_1 ?_
    rcases Decidable.em (d = 2) with c_2 | c_2
    ·
      refine Wp.path (k := 3) [0] (C := [d = 2]) (pc' := 13) (ls' := [some (.inl d)]) (st' := []) (M' := M) rfl c_2 ?_
      refine Wp.path (k := 2) [] (C := []) (pc' := 18) (ls' := [some (.inl d)]) (st' := [.inl (-1)]) (M' := M) rfl trivial ?_
      exact Wp.ret rfl (⟨rfl, by unfold stepXV; (repeat' split) <;> first | rfl | (exfalso; omega)⟩)
    ·
      refine Wp.path (k := 3) [1] (C := [d ≠ 2]) (pc' := 17) (ls' := [some (.inl d)]) (st' := []) (M' := M) rfl c_2 ?_
      refine Wp.path (k := 1) [] (C := []) (pc' := 18) (ls' := [some (.inl d)]) (st' := [.inl 0]) (M' := M) rfl trivial ?_
      exact Wp.ret rfl (⟨rfl, by unfold stepXV; (repeat' split) <;> first | rfl | (exfalso; omega)⟩)
def stepYV (d : Int) : Int := if d = 1 then 1 else if d = 3 then -1 else 0
theorem e940 {d : Int} {M : Mm}  : Ev 0 940 [.inl d] M (fun v M' => M' = M ∧ v = some (.inl (stepYV d))) := by
  show Wp 0 940 0 [some (.inl d)] [] M _
  rcases Decidable.em (d = 1) with c_1 | c_1
  ·
    refine Wp.path (k := 3) [0] (C := [d = 1]) (pc' := 5) (ls' := [some (.inl d)]) (st' := []) (M' := M) rfl c_1 ?_
    refine Wp.path (k := 2) [] (C := []) (pc' := 19) (ls' := [some (.inl d)]) (st' := [.inl 1]) (M' := M) rfl trivial ?_
    exact Wp.ret rfl (⟨rfl, by unfold stepYV; (repeat' split) <;> first | rfl | (exfalso; omega)⟩)
  ·
    refine Wp.path (k := 3) [1] (C := [d ≠ 1]) (pc' := 9) (ls' := [some (.inl d)]) (st' := []) (M' := M) rfl c_1 ?_
    rcases Decidable.em (d = 3) with c_2 | c_2
    ·
      refine Wp.path (k := 3) [0] (C := [d = 3]) (pc' := 14) (ls' := [some (.inl d)]) (st' := []) (M' := M) rfl c_2 ?_
      refine Wp.path (k := 2) [] (C := []) (pc' := 19) (ls' := [some (.inl d)]) (st' := [.inl (-1)]) (M' := M) rfl trivial ?_
      exact Wp.ret rfl (⟨rfl, by unfold stepYV; (repeat' split) <;> first | rfl | (exfalso; omega)⟩)
    ·
      refine Wp.path (k := 3) [1] (C := [d ≠ 3]) (pc' := 18) (ls' := [some (.inl d)]) (st' := []) (M' := M) rfl c_2 ?_
      refine Wp.path (k := 1) [] (C := []) (pc' := 19) (ls' := [some (.inl d)]) (st' := [.inl 0]) (M' := M) rfl trivial ?_
      exact Wp.ret rfl (⟨rfl, by unfold stepYV; (repeat' split) <;> first | rfl | (exfalso; omega)⟩)
def upV (d : Int) : Int := if d = 0 ∨ d = 3 then 1 else 0
theorem e941 {d : Int} {M : Mm}  : Ev 0 941 [.inl d] M (fun v M' => M' = M ∧ v = some (.inl (upV d))) := by
  show Wp 0 941 0 [some (.inl d)] [] M _
  rcases Decidable.em (d = 0) with c_1 | c_1
  ·
    refine Wp.path (k := 2) [1] (C := [d = 0]) (pc' := 9) (ls' := [some (.inl d)]) (st' := []) (M' := M) rfl c_1 ?_
    refine Wp.path (k := 2) [] (C := []) (pc' := 14) (ls' := [some (.inl d)]) (st' := [.inl 1]) (M' := M) rfl trivial ?_
    exact Wp.ret rfl (⟨rfl, by unfold upV; (repeat' split) <;> first | rfl | (exfalso; omega)⟩)
  ·
    refine Wp.path (k := 2) [0] (C := [d ≠ 0]) (pc' := 4) (ls' := [some (.inl d)]) (st' := []) (M' := M) rfl c_1 ?_
    rcases Decidable.em (d = 3) with c_2 | c_2
    ·
      refine Wp.path (k := 3) [0] (C := [d = 3]) (pc' := 9) (ls' := [some (.inl d)]) (st' := []) (M' := M) rfl c_2 ?_
      refine Wp.path (k := 2) [] (C := []) (pc' := 14) (ls' := [some (.inl d)]) (st' := [.inl 1]) (M' := M) rfl trivial ?_
      exact Wp.ret rfl (⟨rfl, by unfold upV; (repeat' split) <;> first | rfl | (exfalso; omega)⟩)
    ·
      refine Wp.path (k := 3) [1] (C := [d ≠ 3]) (pc' := 13) (ls' := [some (.inl d)]) (st' := []) (M' := M) rfl c_2 ?_
      refine Wp.path (k := 1) [] (C := []) (pc' := 14) (ls' := [some (.inl d)]) (st' := [.inl 0]) (M' := M) rfl trivial ?_
      exact Wp.ret rfl (⟨rfl, by unfold upV; (repeat' split) <;> first | rfl | (exfalso; omega)⟩)
def levV (d : Int) : Int := if d = 0 ∨ d = 2 then 1 else 0
theorem e942 {d : Int} {M : Mm}  : Ev 0 942 [.inl d] M (fun v M' => M' = M ∧ v = some (.inl (levV d))) := by
  show Wp 0 942 0 [some (.inl d)] [] M _
  rcases Decidable.em (d = 0) with c_1 | c_1
  ·
    refine Wp.path (k := 2) [1] (C := [d = 0]) (pc' := 9) (ls' := [some (.inl d)]) (st' := []) (M' := M) rfl c_1 ?_
    refine Wp.path (k := 2) [] (C := []) (pc' := 14) (ls' := [some (.inl d)]) (st' := [.inl 1]) (M' := M) rfl trivial ?_
    exact Wp.ret rfl (⟨rfl, by unfold levV; (repeat' split) <;> first | rfl | (exfalso; omega)⟩)
  ·
    refine Wp.path (k := 2) [0] (C := [d ≠ 0]) (pc' := 4) (ls' := [some (.inl d)]) (st' := []) (M' := M) rfl c_1 ?_
    rcases Decidable.em (d = 2) with c_2 | c_2
    ·
      refine Wp.path (k := 3) [0] (C := [d = 2]) (pc' := 9) (ls' := [some (.inl d)]) (st' := []) (M' := M) rfl c_2 ?_
      refine Wp.path (k := 2) [] (C := []) (pc' := 14) (ls' := [some (.inl d)]) (st' := [.inl 1]) (M' := M) rfl trivial ?_
      exact Wp.ret rfl (⟨rfl, by unfold levV; (repeat' split) <;> first | rfl | (exfalso; omega)⟩)
    ·
      refine Wp.path (k := 3) [1] (C := [d ≠ 2]) (pc' := 13) (ls' := [some (.inl d)]) (st' := []) (M' := M) rfl c_2 ?_
      refine Wp.path (k := 1) [] (C := []) (pc' := 14) (ls' := [some (.inl d)]) (st' := [.inl 0]) (M' := M) rfl trivial ?_
      exact Wp.ret rfl (⟨rfl, by unfold levV; (repeat' split) <;> first | rfl | (exfalso; omega)⟩)

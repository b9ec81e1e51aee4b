/-! small methods without loops -/
def inV (x a b : Int) : Int := if a ≤ x ∧ x ≤ b then 1 else 0
theorem e1002 {x a b : Int} {M : Mm}  : Ev 0 1002 [.inl x, .inl a, .inl b] M (fun v M' => M' = M ∧ v = some (.inl (inV x a b))) := by
  show Wp 0 1002 0 [some (.inl x), some (.inl a), some (.inl b)] [] M _
  rcases Int.lt_or_le (x) (a) with c_1 | c_1
  ·
    refine Wp.path (k := 3) [1] (C := [x < a]) (pc' := 14) (ls' := [some (.inl x), some (.inl a), some (.inl b)]) (st' := []) (M' := M) rfl c_1 ?_
    refine Wp.path (k := 1) [] (C := []) (pc' := 15) (ls' := [some (.inl x), some (.inl a), some (.inl b)]) (st' := [.inl 0]) (M' := M) rfl trivial ?_
    exact Wp.ret rfl (⟨rfl, by unfold inV; (repeat' split) <;> first | rfl | (exfalso; omega)⟩)
  ·
    refine Wp.path (k := 3) [0] (C := [a ≤ x]) (pc' := 5) (ls' := [some (.inl x), some (.inl a), some (.inl b)]) (st' := []) (M' := M) rfl c_1 ?_
    rcases Int.lt_or_le (b) (x) with c_2 | c_2
    ·
      refine Wp.path (k := 3) [1] (C := [b < x]) (pc' := 14) (ls' := [some (.inl x), some (.inl a), some (.inl b)]) (st' := []) (M' := M) rfl c_2 ?_
      refine Wp.path (k := 1) [] (C := []) (pc' := 15) (ls' := [some (.inl x), some (.inl a), some (.inl b)]) (st' := [.inl 0]) (M' := M) rfl trivial ?_
      exact Wp.ret rfl (⟨rfl, by unfold inV; (repeat' split) <;> first | rfl | (exfalso; omega)⟩)
    ·
      refine Wp.path (k := 3) [0] (C := [x ≤ b]) (pc' := 10) (ls' := [some (.inl x), some (.inl a), some (.inl b)]) (st' := []) (M' := M) rfl c_2 ?_
      refine Wp.path (k := 2) [] (C := []) (pc' := 15) (ls' := [some (.inl x), some (.inl a), some (.inl b)]) (st' := [.inl 1]) (M' := M) rfl trivial ?_
      exact Wp.ret rfl (⟨rfl, by unfold inV; (repeat' split) <;> first | rfl | (exfalso; omega)⟩)
def upW (d : Int) : Int := if d = 0 ∨ d = 3 then 1 else 0
theorem e1041 {d : Int} {M : Mm}  : Ev 0 1041 [.inl d] M (fun v M' => M' = M ∧ v = some (.inl (upW d))) := by
  show Wp 0 1041 0 [some (.inl d)] [] M _
  rcases Decidable.em (d = 0) with c_1 | c_1
  ·
    refine Wp.path (k := 2) [1] (C := [d = 0]) (pc' := 9) (ls' := [some (.inl d)]) (st' := []) (M' := M) rfl c_1 ?_
    refine Wp.path (k := 2) [] (C := []) (pc' := 14) (ls' := [some (.inl d)]) (st' := [.inl 1]) (M' := M) rfl trivial ?_
    exact Wp.ret rfl (⟨rfl, by unfold upW; (repeat' split) <;> first | rfl | (exfalso; omega)⟩)
  ·
    refine Wp.path (k := 2) [0] (C := [d ≠ 0]) (pc' := 4) (ls' := [some (.inl d)]) (st' := []) (M' := M) rfl c_1 ?_
    rcases Decidable.em (d = 3) with c_2 | c_2
    ·
      refine Wp.path (k := 3) [0] (C := [d = 3]) (pc' := 9) (ls' := [some (.inl d)]) (st' := []) (M' := M) rfl c_2 ?_
      refine Wp.path (k := 2) [] (C := []) (pc' := 14) (ls' := [some (.inl d)]) (st' := [.inl 1]) (M' := M) rfl trivial ?_
      exact Wp.ret rfl (⟨rfl, by unfold upW; (repeat' split) <;> first | rfl | (exfalso; omega)⟩)
    ·
      refine Wp.path (k := 3) [1] (C := [d ≠ 3]) (pc' := 13) (ls' := [some (.inl d)]) (st' := []) (M' := M) rfl c_2 ?_
      refine Wp.path (k := 1) [] (C := []) (pc' := 14) (ls' := [some (.inl d)]) (st' := [.inl 0]) (M' := M) rfl trivial ?_
      exact Wp.ret rfl (⟨rfl, by unfold upW; (repeat' split) <;> first | rfl | (exfalso; omega)⟩)

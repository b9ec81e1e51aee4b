/-! small methods without loops -/
def inV (x a b : Int) : Int := if a ≤ x ∧ x ≤ b then 1 else 0
theorem e1002 {x a b : Int} {M : Mm}  : Ev 0 1002 [.inl x, .inl a, .inl b] M (fun v M' => M' = M ∧ v = some (.inl (inV x a b))) := by
  show Wp 0 1002 0 [some (.inl x), some (.inl a), some (.inl b)] [] M _
  rcases Int.lt_or_le (x) (a) with c_1 | c_1
  ·
    refine Wp.path (k := 3) [1] (C := [x < a]) (pc' := 14) (ls' := [some (.inl x), some (.inl a), some (.inl b)]) (st' := []) (M' := M) rfl c_1 ?_
    refine Wp.path (k := 1) [] (C := []) (pc' := 15) (ls' := [some (.inl x), some (.inl a), some (.inl b)]) (st' := [.inl 0]) (M' := M) rfl trivial ?_
    exact Wp.ret rfl (⟨rfl, by unfold inV; (repeat' split) <;> first | rfl | (exfalso; omega)⟩)
  ·
    refine Wp.path (k := 3) [0] (C := [a ≤ x]) (pc' := 5) (ls' := [some (.inl x), some (.inl a), some (.inl b)]) (st' := []) (M' := M) rfl c_1 ?_
    rcases Int.lt_or_le (b) (x) with c_2 | c_2
    ·
      refine Wp.path (k := 3) [1] (C := [b < x]) (pc' := 14) (ls' := [some (.inl x), some (.inl a), some (.inl b)]) (st' := []) (M' := M) rfl c_2 ?_
      refine Wp.path (k := 1) [] (C := []) (pc' := 15) (ls' := [some (.inl x), some (.inl a), some (.inl b)]) (st' := [.inl 0]) (M' := M) rfl trivial ?_
      exact Wp.ret rfl (⟨rfl, by unfold inV; (repeat' split) <;> first | rfl | (exfalso; omega)⟩)
    ·
      refine Wp.path (k := 3) [0] (C := [x ≤ b]) (pc' := 10) (ls' := [some (.inl x), some (.inl a), some (.inl b)]) (st' := []) (M' := M) rfl c_2 ?_
      refine Wp.path (k := 2) [] (C := []) (pc' := 15) (ls' := [some (.inl x), some (.inl a), some (.inl b)]) (st' := [.inl 1]) (M' := M) rfl trivial ?_
      exact Wp.ret rfl (⟨rfl, by unfold inV; (repeat' split) <;> first | rfl | (exfalso; omega)⟩)
def upW (d : Int) : Int := if d = 0 ∨ d = 3 then 1 else 0
theorem e1041 {d : Int} {M : Mm}  : Ev 0 1041 [.inl d] M (fun v M' => M' = M ∧ v = some (.inl (upW d))) := by
  show Wp 0 1041 0 [some (.inl d)] [] M _
  rcases Decidable.em (d = 0) with c_1 | c_1
  ·
    refine Wp.path (k := 2) [1] (C := [d = 0]) (pc' := 9) (ls' := [some (.inl d)]) (st' := []) (M' := M) rfl c_1 ?_
    refine Wp.path (k := 2) [] (C := []) (pc' := 14) (ls' := [some (.inl d)]) (st' := [.inl 1]) (M' := M) rfl trivial ?_
    exact Wp.ret rfl (⟨rfl, by unfold upW; (repeat' split) <;> first | rfl | (exfalso; omega)⟩)
  ·
    refine Wp.path (k := 2) [0] (C := [d ≠ 0]) (pc' := 4) (ls' := [some (.inl d)]) (st' := []) (M' := M) rfl c_1 ?_
    rcases Decidable.em (d = 3) with c_2 | c_2
    ·
      refine Wp.path (k := 3) [0] (C := [d = 3]) (pc' := 9) (ls' := [some (.inl d)]) (st' := []) (M' := M) rfl c_2 ?_
      refine Wp.path (k := 2) [] (C := []) (pc' := 14) (ls' := [some (.inl d)]) (st' := [.inl 1]) (M' := M) rfl trivial ?_
      exact Wp.ret rfl (⟨rfl, by unfold upW; (repeat' split) <;> first | rfl | (exfalso; omega)⟩)
    ·
      refine Wp.path (k := 3) [1] (C := [d ≠ 3]) (pc' := 13) (ls' := [some (.inl d)]) (st' := []) (M' := M) rfl c_2 ?_
      refine Wp.path (k := 1) [] (C := []) (pc' := 14) (ls' := [some (.inl d)]) (st' := [.inl 0]) (M' := M) rfl trivial ?_
      exact Wp.ret rfl (⟨rfl, by unfold upW; (repeat' split) <;> first | rfl | (exfalso; omega)⟩)
def maxV (a b : Int) : Int := if a < b then b else a
def gapV (p l : Int) : Int := maxV 0 (maxV (l - p) (p - l - 8))
theorem e416 {p l : Int} {M : Mm} (h1 : 0 ≤ p) (h2 : p ≤ 96) (h3 : -8 ≤ l) (h4 : l ≤ 96) : Ev 0 416 [.inl p, .inl l] M (fun v M' => M' = M ∧ v = some (.inl (gapV p l))) := by
  show Wp 0 416 0 [some (.inl p), some (.inl l)] [] M _
  refine Wp.path (k := 11) [] (C := [inR (l - p), inR (p - l), inR ((p - l) - 8)]) (pc' := 16) (ls' := [some (.inl p), some (.inl l)]) (st' := [.inl (if 0 < if l - p < (p - l) - 8 then (p - l) - 8 else l - p then if l - p < (p - l) - 8 then (p - l) - 8 else l - p else 0)]) (M' := M) rfl ⟨(show inR (l - p) from by unfold inR; omega), (show inR (p - l) from by unfold inR; omega), (show inR ((p - l) - 8) from by unfold inR; omega)⟩ ?_
  exact Wp.ret rfl (⟨rfl, rfl⟩)
def unitV (q : Int) : Int := isr (q + 1) 2
theorem e943 {q : Int} {M : Mm} (h1 : -1 ≤ q) (h2 : q ≤ 1000) : Ev 0 943 [.inl q] M (fun v M' => M' = M ∧ v = some (.inl (unitV q))) := by
  show Wp 0 943 0 [some (.inl q)] [] M _
  refine Wp.path (k := 5) [] (C := [inR (q + 1)]) (pc' := 5) (ls' := [some (.inl q)]) (st' := [.inl (isr (q + 1) 2)]) (M' := M) rfl (show inR (q + 1) from by unfold inR; omega) ?_
  exact Wp.ret rfl (⟨rfl, rfl⟩)

/-! small methods without loops -/
def maxV (a b : Int) : Int := if a < b then b else a
def gapV (p l : Int) : Int := maxV 0 (maxV (l - p) (p - l - 8))
theorem e416 {p l : Int} {M : Mm} (h1 : 0 ≤ p) (h2 : p ≤ 96) (h3 : -8 ≤ l) (h4 : l ≤ 96) : Ev 0 416 [.inl p, .inl l] M (fun v M' => M' = M ∧ v = some (.inl (gapV p l))) := by
  show Wp 0 416 0 [some (.inl p), some (.inl l)] [] M _
  refine Wp.path (k := 11) [] (C := [inR (l - p), inR (p - l), inR ((p - l) - 8)]) (pc' := 16) (ls' := [some (.inl p), some (.inl l)]) (st' := [.inl (if 0 < (if l - p < (p - l) - 8 then (p - l) - 8 else l - p) then (if l - p < (p - l) - 8 then (p - l) - 8 else l - p) else 0)]) (M' := M) rfl ⟨(show inR (l - p) from by unfold inR; omega), (show inR (p - l) from by unfold inR; omega), (show inR ((p - l) - 8) from by unfold inR; omega)⟩ ?_
  exact Wp.ret rfl (⟨rfl, rfl⟩)
def unitV (q : Int) : Int := isr (q + 1) 2
theorem e943 {q : Int} {M : Mm} (h1 : -1 ≤ q) (h2 : q ≤ 1000) : Ev 0 943 [.inl q] M (fun v M' => M' = M ∧ v = some (.inl (unitV q))) := by
  show Wp 0 943 0 [some (.inl q)] [] M _
  refine Wp.path (k := 5) [] (C := [inR (q + 1)]) (pc' := 5) (ls' := [some (.inl q)]) (st' := [.inl (isr (q + 1) 2)]) (M' := M) rfl (show inR (q + 1) from by unfold inR; omega) ?_
  exact Wp.ret rfl (⟨rfl, rfl⟩)

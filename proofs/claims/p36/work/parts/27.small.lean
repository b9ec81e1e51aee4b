/-! the class: its smallest methods -/
def b2i (b : Bool) : Int := bif b then 1 else 0
/-- a read and a write that are asked for first -/
def atN (L : Nat) (f : Nat → Int) (j : Int) : Int := if 0 ≤ j ∧ j < L then f j.toNat else 0
def putN (L : Nat) (f : Nat → Int) (j v : Int) : Nat → Int := fun q => if 0 ≤ j ∧ j < L ∧ q = j.toNat then v else f q
theorem putN_in {M : Mm} {t i L : Nat} {j v : Int} (h0 : 0 ≤ j) (h1 : j < L) : setI M t i j.toNat v = setA M t i (putN L (M.1 t i) j v) := by
  rw [setI_A]
  congr 1
  funext q
  unfold putN
  by_cases h : q = j.toNat
  · rw [if_pos h, if_pos ⟨h0, h1, h⟩]
  · rw [if_neg h, if_neg (fun g => h g.2.2)]
theorem putN_out {M : Mm} {t i L : Nat} {j v : Int} (h : ¬ (0 ≤ j ∧ j < L)) : M = setA M t i (putN L (M.1 t i) j v) := by
  refine (setA_id ?_).symm
  funext q
  unfold putN
  rw [if_neg (fun g => h ⟨g.1, g.2.1⟩)]
theorem at_100 {i : Nat} {j : Int} {M : Mm}  : Ev 0 937 [.inr (.inr (100, i)), .inl j] M (fun v M' => M' = M ∧ v = some (.inl (atN 340 (M.1 100 i) j))) := by
  show Wp 0 937 0 [some (.inr (.inr (100, i))), some (.inl j)] [] M _
  rcases Int.lt_or_le (j) (0) with c_1 | c_1
  ·
    refine Wp.path (k := 2) [1] (C := [j < 0]) (pc' := 16) (ls' := [some (.inr (.inr (100, i))), some (.inl j)]) (st' := []) (M' := M) rfl c_1 ?_
    refine Wp.path (k := 1) [] (C := []) (pc' := 17) (ls' := [some (.inr (.inr (100, i))), some (.inl j)]) (st' := [.inl 0]) (M' := M) rfl trivial ?_
    exact Wp.ret rfl (⟨rfl, by unfold atN; (repeat' split) <;> first | rfl | (exfalso; omega)⟩)
  ·
    refine Wp.path (k := 2) [0] (C := [0 ≤ j]) (pc' := 4) (ls' := [some (.inr (.inr (100, i))), some (.inl j)]) (st' := []) (M' := M) rfl c_1 ?_
    rcases Int.lt_or_le (j) (340) with c_2 | c_2
    ·
      refine Wp.path (k := 4) [0] (C := [j < 340]) (pc' := 10) (ls' := [some (.inr (.inr (100, i))), some (.inl j)]) (st' := []) (M' := M) rfl c_2 ?_
      refine Wp.path (k := 4) [] (C := [0 ≤ j ∧ j < 340]) (pc' := 17) (ls' := [some (.inr (.inr (100, i))), some (.inl j)]) (st' := [.inl (M.1 100 i j.toNat)]) (M' := M) rfl (show 0 ≤ j ∧ j < 340 from ⟨by omega, by omega⟩) ?_
      exact Wp.ret rfl (⟨rfl, by unfold atN; (repeat' split) <;> first | rfl | (exfalso; omega)⟩)
    ·
      refine Wp.path (k := 4) [1] (C := [340 ≤ j]) (pc' := 16) (ls' := [some (.inr (.inr (100, i))), some (.inl j)]) (st' := []) (M' := M) rfl c_2 ?_
      refine Wp.path (k := 1) [] (C := []) (pc' := 17) (ls' := [some (.inr (.inr (100, i))), some (.inl j)]) (st' := [.inl 0]) (M' := M) rfl trivial ?_
      exact Wp.ret rfl (⟨rfl, by unfold atN; (repeat' split) <;> first | rfl | (exfalso; omega)⟩)
theorem put_100 {i : Nat} {j v : Int} {M : Mm}  : Ev 0 938 [.inr (.inr (100, i)), .inl j, .inl v] M (fun w M' => M' = setA M 100 i (putN 340 (M.1 100 i) j v) ∧ w = none) := by
  show Wp 0 938 0 [some (.inr (.inr (100, i))), some (.inl j), some (.inl v)] [] M _
  rcases Int.lt_or_le (j) (0) with c_1 | c_1
  ·
    refine Wp.path (k := 2) [1] (C := [j < 0]) (pc' := 14) (ls' := [some (.inr (.inr (100, i))), some (.inl j), some (.inl v)]) (st' := []) (M' := M) rfl c_1 ?_
    exact Wp.ret rfl (⟨putN_out (by omega), rfl⟩)
  ·
    refine Wp.path (k := 2) [0] (C := [0 ≤ j]) (pc' := 4) (ls' := [some (.inr (.inr (100, i))), some (.inl j), some (.inl v)]) (st' := []) (M' := M) rfl c_1 ?_
    rcases Int.lt_or_le (j) (340) with c_2 | c_2
    ·
      refine Wp.path (k := 4) [0] (C := [j < 340]) (pc' := 10) (ls' := [some (.inr (.inr (100, i))), some (.inl j), some (.inl v)]) (st' := []) (M' := M) rfl c_2 ?_
      refine Wp.path (k := 4) [] (C := [0 ≤ j ∧ j < 340]) (pc' := 14) (ls' := [some (.inr (.inr (100, i))), some (.inl j), some (.inl v)]) (st' := []) (M' := setI M 100 i j.toNat v) rfl (show 0 ≤ j ∧ j < 340 from ⟨by omega, by omega⟩) ?_
      exact Wp.ret rfl (⟨putN_in (by omega) (by omega), rfl⟩)
    ·
      refine Wp.path (k := 4) [1] (C := [340 ≤ j]) (pc' := 14) (ls' := [some (.inr (.inr (100, i))), some (.inl j), some (.inl v)]) (st' := []) (M' := M) rfl c_2 ?_
      exact Wp.ret rfl (⟨putN_out (by omega), rfl⟩)
theorem at_101 {i : Nat} {j : Int} {M : Mm}  : Ev 0 937 [.inr (.inr (101, i)), .inl j] M (fun v M' => M' = M ∧ v = some (.inl (atN 340 (M.1 101 i) j))) := by
  show Wp 0 937 0 [some (.inr (.inr (101, i))), some (.inl j)] [] M _
  rcases Int.lt_or_le (j) (0) with c_1 | c_1
  ·
    refine Wp.path (k := 2) [1] (C := [j < 0]) (pc' := 16) (ls' := [some (.inr (.inr (101, i))), some (.inl j)]) (st' := []) (M' := M) rfl c_1 ?_
    refine Wp.path (k := 1) [] (C := []) (pc' := 17) (ls' := [some (.inr (.inr (101, i))), some (.inl j)]) (st' := [.inl 0]) (M' := M) rfl trivial ?_
    exact Wp.ret rfl (⟨rfl, by unfold atN; (repeat' split) <;> first | rfl | (exfalso; omega)⟩)
  ·
    refine Wp.path (k := 2) [0] (C := [0 ≤ j]) (pc' := 4) (ls' := [some (.inr (.inr (101, i))), some (.inl j)]) (st' := []) (M' := M) rfl c_1 ?_
    rcases Int.lt_or_le (j) (340) with c_2 | c_2
    ·
      refine Wp.path (k := 4) [0] (C := [j < 340]) (pc' := 10) (ls' := [some (.inr (.inr (101, i))), some (.inl j)]) (st' := []) (M' := M) rfl c_2 ?_
      refine Wp.path (k := 4) [] (C := [0 ≤ j ∧ j < 340]) (pc' := 17) (ls' := [some (.inr (.inr (101, i))), some (.inl j)]) (st' := [.inl (M.1 101 i j.toNat)]) (M' := M) rfl (show 0 ≤ j ∧ j < 340 from ⟨by omega, by omega⟩) ?_
      exact Wp.ret rfl (⟨rfl, by unfold atN; (repeat' split) <;> first | rfl | (exfalso; omega)⟩)
    ·
      refine Wp.path (k := 4) [1] (C := [340 ≤ j]) (pc' := 16) (ls' := [some (.inr (.inr (101, i))), some (.inl j)]) (st' := []) (M' := M) rfl c_2 ?_
      refine Wp.path (k := 1) [] (C := []) (pc' := 17) (ls' := [some (.inr (.inr (101, i))), some (.inl j)]) (st' := [.inl 0]) (M' := M) rfl trivial ?_
      exact Wp.ret rfl (⟨rfl, by unfold atN; (repeat' split) <;> first | rfl | (exfalso; omega)⟩)
theorem put_101 {i : Nat} {j v : Int} {M : Mm}  : Ev 0 938 [.inr (.inr (101, i)), .inl j, .inl v] M (fun w M' => M' = setA M 101 i (putN 340 (M.1 101 i) j v) ∧ w = none) := by
  show Wp 0 938 0 [some (.inr (.inr (101, i))), some (.inl j), some (.inl v)] [] M _
  rcases Int.lt_or_le (j) (0) with c_1 | c_1
  ·
    refine Wp.path (k := 2) [1] (C := [j < 0]) (pc' := 14) (ls' := [some (.inr (.inr (101, i))), some (.inl j), some (.inl v)]) (st' := []) (M' := M) rfl c_1 ?_
    exact Wp.ret rfl (⟨putN_out (by omega), rfl⟩)
  ·
    refine Wp.path (k := 2) [0] (C := [0 ≤ j]) (pc' := 4) (ls' := [some (.inr (.inr (101, i))), some (.inl j), some (.inl v)]) (st' := []) (M' := M) rfl c_1 ?_
    rcases Int.lt_or_le (j) (340) with c_2 | c_2
    ·
      refine Wp.path (k := 4) [0] (C := [j < 340]) (pc' := 10) (ls' := [some (.inr (.inr (101, i))), some (.inl j), some (.inl v)]) (st' := []) (M' := M) rfl c_2 ?_
      refine Wp.path (k := 4) [] (C := [0 ≤ j ∧ j < 340]) (pc' := 14) (ls' := [some (.inr (.inr (101, i))), some (.inl j), some (.inl v)]) (st' := []) (M' := setI M 101 i j.toNat v) rfl (show 0 ≤ j ∧ j < 340 from ⟨by omega, by omega⟩) ?_
      exact Wp.ret rfl (⟨putN_in (by omega) (by omega), rfl⟩)
    ·
      refine Wp.path (k := 4) [1] (C := [340 ≤ j]) (pc' := 14) (ls' := [some (.inr (.inr (101, i))), some (.inl j), some (.inl v)]) (st' := []) (M' := M) rfl c_2 ?_
      exact Wp.ret rfl (⟨putN_out (by omega), rfl⟩)
theorem at_102 {i : Nat} {j : Int} {M : Mm}  : Ev 0 937 [.inr (.inr (102, i)), .inl j] M (fun v M' => M' = M ∧ v = some (.inl (atN 340 (M.1 102 i) j))) := by
  show Wp 0 937 0 [some (.inr (.inr (102, i))), some (.inl j)] [] M _
  rcases Int.lt_or_le (j) (0) with c_1 | c_1
  ·
    refine Wp.path (k := 2) [1] (C := [j < 0]) (pc' := 16) (ls' := [some (.inr (.inr (102, i))), some (.inl j)]) (st' := []) (M' := M) rfl c_1 ?_
    refine Wp.path (k := 1) [] (C := []) (pc' := 17) (ls' := [some (.inr (.inr (102, i))), some (.inl j)]) (st' := [.inl 0]) (M' := M) rfl trivial ?_
    exact Wp.ret rfl (⟨rfl, by unfold atN; (repeat' split) <;> first | rfl | (exfalso; omega)⟩)
  ·
    refine Wp.path (k := 2) [0] (C := [0 ≤ j]) (pc' := 4) (ls' := [some (.inr (.inr (102, i))), some (.inl j)]) (st' := []) (M' := M) rfl c_1 ?_
    rcases Int.lt_or_le (j) (340) with c_2 | c_2
    ·
      refine Wp.path (k := 4) [0] (C := [j < 340]) (pc' := 10) (ls' := [some (.inr (.inr (102, i))), some (.inl j)]) (st' := []) (M' := M) rfl c_2 ?_
      refine Wp.path (k := 4) [] (C := [0 ≤ j ∧ j < 340]) (pc' := 17) (ls' := [some (.inr (.inr (102, i))), some (.inl j)]) (st' := [.inl (M.1 102 i j.toNat)]) (M' := M) rfl (show 0 ≤ j ∧ j < 340 from ⟨by omega, by omega⟩) ?_
      exact Wp.ret rfl (⟨rfl, by unfold atN; (repeat' split) <;> first | rfl | (exfalso; omega)⟩)
    ·
      refine Wp.path (k := 4) [1] (C := [340 ≤ j]) (pc' := 16) (ls' := [some (.inr (.inr (102, i))), some (.inl j)]) (st' := []) (M' := M) rfl c_2 ?_
      refine Wp.path (k := 1) [] (C := []) (pc' := 17) (ls' := [some (.inr (.inr (102, i))), some (.inl j)]) (st' := [.inl 0]) (M' := M) rfl trivial ?_
      exact Wp.ret rfl (⟨rfl, by unfold atN; (repeat' split) <;> first | rfl | (exfalso; omega)⟩)
theorem put_102 {i : Nat} {j v : Int} {M : Mm}  : Ev 0 938 [.inr (.inr (102, i)), .inl j, .inl v] M (fun w M' => M' = setA M 102 i (putN 340 (M.1 102 i) j v) ∧ w = none) := by
  show Wp 0 938 0 [some (.inr (.inr (102, i))), some (.inl j), some (.inl v)] [] M _
  rcases Int.lt_or_le (j) (0) with c_1 | c_1
  ·
    refine Wp.path (k := 2) [1] (C := [j < 0]) (pc' := 14) (ls' := [some (.inr (.inr (102, i))), some (.inl j), some (.inl v)]) (st' := []) (M' := M) rfl c_1 ?_
    exact Wp.ret rfl (⟨putN_out (by omega), rfl⟩)
  ·
    refine Wp.path (k := 2) [0] (C := [0 ≤ j]) (pc' := 4) (ls' := [some (.inr (.inr (102, i))), some (.inl j), some (.inl v)]) (st' := []) (M' := M) rfl c_1 ?_
    rcases Int.lt_or_le (j) (340) with c_2 | c_2
    ·
      refine Wp.path (k := 4) [0] (C := [j < 340]) (pc' := 10) (ls' := [some (.inr (.inr (102, i))), some (.inl j), some (.inl v)]) (st' := []) (M' := M) rfl c_2 ?_
      refine Wp.path (k := 4) [] (C := [0 ≤ j ∧ j < 340]) (pc' := 14) (ls' := [some (.inr (.inr (102, i))), some (.inl j), some (.inl v)]) (st' := []) (M' := setI M 102 i j.toNat v) rfl (show 0 ≤ j ∧ j < 340 from ⟨by omega, by omega⟩) ?_
      exact Wp.ret rfl (⟨putN_in (by omega) (by omega), rfl⟩)
    ·
      refine Wp.path (k := 4) [1] (C := [340 ≤ j]) (pc' := 14) (ls' := [some (.inr (.inr (102, i))), some (.inl j), some (.inl v)]) (st' := []) (M' := M) rfl c_2 ?_
      exact Wp.ret rfl (⟨putN_out (by omega), rfl⟩)
theorem at_103 {i : Nat} {j : Int} {M : Mm}  : Ev 0 937 [.inr (.inr (103, i)), .inl j] M (fun v M' => M' = M ∧ v = some (.inl (atN 340 (M.1 103 i) j))) := by
  show Wp 0 937 0 [some (.inr (.inr (103, i))), some (.inl j)] [] M _
  rcases Int.lt_or_le (j) (0) with c_1 | c_1
  ·
    refine Wp.path (k := 2) [1] (C := [j < 0]) (pc' := 16) (ls' := [some (.inr (.inr (103, i))), some (.inl j)]) (st' := []) (M' := M) rfl c_1 ?_
    refine Wp.path (k := 1) [] (C := []) (pc' := 17) (ls' := [some (.inr (.inr (103, i))), some (.inl j)]) (st' := [.inl 0]) (M' := M) rfl trivial ?_
    exact Wp.ret rfl (⟨rfl, by unfold atN; (repeat' split) <;> first | rfl | (exfalso; omega)⟩)
  ·
    refine Wp.path (k := 2) [0] (C := [0 ≤ j]) (pc' := 4) (ls' := [some (.inr (.inr (103, i))), some (.inl j)]) (st' := []) (M' := M) rfl c_1 ?_
    rcases Int.lt_or_le (j) (340) with c_2 | c_2
    ·
      refine Wp.path (k := 4) [0] (C := [j < 340]) (pc' := 10) (ls' := [some (.inr (.inr (103, i))), some (.inl j)]) (st' := []) (M' := M) rfl c_2 ?_
      refine Wp.path (k := 4) [] (C := [0 ≤ j ∧ j < 340]) (pc' := 17) (ls' := [some (.inr (.inr (103, i))), some (.inl j)]) (st' := [.inl (M.1 103 i j.toNat)]) (M' := M) rfl (show 0 ≤ j ∧ j < 340 from ⟨by omega, by omega⟩) ?_
      exact Wp.ret rfl (⟨rfl, by unfold atN; (repeat' split) <;> first | rfl | (exfalso; omega)⟩)
    ·
      refine Wp.path (k := 4) [1] (C := [340 ≤ j]) (pc' := 16) (ls' := [some (.inr (.inr (103, i))), some (.inl j)]) (st' := []) (M' := M) rfl c_2 ?_
      refine Wp.path (k := 1) [] (C := []) (pc' := 17) (ls' := [some (.inr (.inr (103, i))), some (.inl j)]) (st' := [.inl 0]) (M' := M) rfl trivial ?_
      exact Wp.ret rfl (⟨rfl, by unfold atN; (repeat' split) <;> first | rfl | (exfalso; omega)⟩)
theorem put_103 {i : Nat} {j v : Int} {M : Mm}  : Ev 0 938 [.inr (.inr (103, i)), .inl j, .inl v] M (fun w M' => M' = setA M 103 i (putN 340 (M.1 103 i) j v) ∧ w = none) := by
  show Wp 0 938 0 [some (.inr (.inr (103, i))), some (.inl j), some (.inl v)] [] M _
  rcases Int.lt_or_le (j) (0) with c_1 | c_1
  ·
    refine Wp.path (k := 2) [1] (C := [j < 0]) (pc' := 14) (ls' := [some (.inr (.inr (103, i))), some (.inl j), some (.inl v)]) (st' := []) (M' := M) rfl c_1 ?_
    exact Wp.ret rfl (⟨putN_out (by omega), rfl⟩)
  ·
    refine Wp.path (k := 2) [0] (C := [0 ≤ j]) (pc' := 4) (ls' := [some (.inr (.inr (103, i))), some (.inl j), some (.inl v)]) (st' := []) (M' := M) rfl c_1 ?_
    rcases Int.lt_or_le (j) (340) with c_2 | c_2
    ·
      refine Wp.path (k := 4) [0] (C := [j < 340]) (pc' := 10) (ls' := [some (.inr (.inr (103, i))), some (.inl j), some (.inl v)]) (st' := []) (M' := M) rfl c_2 ?_
      refine Wp.path (k := 4) [] (C := [0 ≤ j ∧ j < 340]) (pc' := 14) (ls' := [some (.inr (.inr (103, i))), some (.inl j), some (.inl v)]) (st' := []) (M' := setI M 103 i j.toNat v) rfl (show 0 ≤ j ∧ j < 340 from ⟨by omega, by omega⟩) ?_
      exact Wp.ret rfl (⟨putN_in (by omega) (by omega), rfl⟩)
    ·
      refine Wp.path (k := 4) [1] (C := [340 ≤ j]) (pc' := 14) (ls' := [some (.inr (.inr (103, i))), some (.inl j), some (.inl v)]) (st' := []) (M' := M) rfl c_2 ?_
      exact Wp.ret rfl (⟨putN_out (by omega), rfl⟩)
theorem at_104 {i : Nat} {j : Int} {M : Mm}  : Ev 0 937 [.inr (.inr (104, i)), .inl j] M (fun v M' => M' = M ∧ v = some (.inl (atN 340 (M.1 104 i) j))) := by
  show Wp 0 937 0 [some (.inr (.inr (104, i))), some (.inl j)] [] M _
  rcases Int.lt_or_le (j) (0) with c_1 | c_1
  ·
    refine Wp.path (k := 2) [1] (C := [j < 0]) (pc' := 16) (ls' := [some (.inr (.inr (104, i))), some (.inl j)]) (st' := []) (M' := M) rfl c_1 ?_
    refine Wp.path (k := 1) [] (C := []) (pc' := 17) (ls' := [some (.inr (.inr (104, i))), some (.inl j)]) (st' := [.inl 0]) (M' := M) rfl trivial ?_
    exact Wp.ret rfl (⟨rfl, by unfold atN; (repeat' split) <;> first | rfl | (exfalso; omega)⟩)
  ·
    refine Wp.path (k := 2) [0] (C := [0 ≤ j]) (pc' := 4) (ls' := [some (.inr (.inr (104, i))), some (.inl j)]) (st' := []) (M' := M) rfl c_1 ?_
    rcases Int.lt_or_le (j) (340) with c_2 | c_2
    ·
      refine Wp.path (k := 4) [0] (C := [j < 340]) (pc' := 10) (ls' := [some (.inr (.inr (104, i))), some (.inl j)]) (st' := []) (M' := M) rfl c_2 ?_
      refine Wp.path (k := 4) [] (C := [0 ≤ j ∧ j < 340]) (pc' := 17) (ls' := [some (.inr (.inr (104, i))), some (.inl j)]) (st' := [.inl (M.1 104 i j.toNat)]) (M' := M) rfl (show 0 ≤ j ∧ j < 340 from ⟨by omega, by omega⟩) ?_
      exact Wp.ret rfl (⟨rfl, by unfold atN; (repeat' split) <;> first | rfl | (exfalso; omega)⟩)
    ·
      refine Wp.path (k := 4) [1] (C := [340 ≤ j]) (pc' := 16) (ls' := [some (.inr (.inr (104, i))), some (.inl j)]) (st' := []) (M' := M) rfl c_2 ?_
      refine Wp.path (k := 1) [] (C := []) (pc' := 17) (ls' := [some (.inr (.inr (104, i))), some (.inl j)]) (st' := [.inl 0]) (M' := M) rfl trivial ?_
      exact Wp.ret rfl (⟨rfl, by unfold atN; (repeat' split) <;> first | rfl | (exfalso; omega)⟩)
theorem put_104 {i : Nat} {j v : Int} {M : Mm}  : Ev 0 938 [.inr (.inr (104, i)), .inl j, .inl v] M (fun w M' => M' = setA M 104 i (putN 340 (M.1 104 i) j v) ∧ w = none) := by
  show Wp 0 938 0 [some (.inr (.inr (104, i))), some (.inl j), some (.inl v)] [] M _
  rcases Int.lt_or_le (j) (0) with c_1 | c_1
  ·
    refine Wp.path (k := 2) [1] (C := [j < 0]) (pc' := 14) (ls' := [some (.inr (.inr (104, i))), some (.inl j), some (.inl v)]) (st' := []) (M' := M) rfl c_1 ?_
    exact Wp.ret rfl (⟨putN_out (by omega), rfl⟩)
  ·
    refine Wp.path (k := 2) [0] (C := [0 ≤ j]) (pc' := 4) (ls' := [some (.inr (.inr (104, i))), some (.inl j), some (.inl v)]) (st' := []) (M' := M) rfl c_1 ?_
    rcases Int.lt_or_le (j) (340) with c_2 | c_2
    ·
      refine Wp.path (k := 4) [0] (C := [j < 340]) (pc' := 10) (ls' := [some (.inr (.inr (104, i))), some (.inl j), some (.inl v)]) (st' := []) (M' := M) rfl c_2 ?_
      refine Wp.path (k := 4) [] (C := [0 ≤ j ∧ j < 340]) (pc' := 14) (ls' := [some (.inr (.inr (104, i))), some (.inl j), some (.inl v)]) (st' := []) (M' := setI M 104 i j.toNat v) rfl (show 0 ≤ j ∧ j < 340 from ⟨by omega, by omega⟩) ?_
      exact Wp.ret rfl (⟨putN_in (by omega) (by omega), rfl⟩)
    ·
      refine Wp.path (k := 4) [1] (C := [340 ≤ j]) (pc' := 14) (ls' := [some (.inr (.inr (104, i))), some (.inl j), some (.inl v)]) (st' := []) (M' := M) rfl c_2 ?_
      exact Wp.ret rfl (⟨putN_out (by omega), rfl⟩)
theorem at_105 {i : Nat} {j : Int} {M : Mm}  : Ev 0 937 [.inr (.inr (105, i)), .inl j] M (fun v M' => M' = M ∧ v = some (.inl (atN 53 (M.1 105 i) j))) := by
  show Wp 0 937 0 [some (.inr (.inr (105, i))), some (.inl j)] [] M _
  rcases Int.lt_or_le (j) (0) with c_1 | c_1
  ·
    refine Wp.path (k := 2) [1] (C := [j < 0]) (pc' := 16) (ls' := [some (.inr (.inr (105, i))), some (.inl j)]) (st' := []) (M' := M) rfl c_1 ?_
    refine Wp.path (k := 1) [] (C := []) (pc' := 17) (ls' := [some (.inr (.inr (105, i))), some (.inl j)]) (st' := [.inl 0]) (M' := M) rfl trivial ?_
    exact Wp.ret rfl (⟨rfl, by unfold atN; (repeat' split) <;> first | rfl | (exfalso; omega)⟩)
  ·
    refine Wp.path (k := 2) [0] (C := [0 ≤ j]) (pc' := 4) (ls' := [some (.inr (.inr (105, i))), some (.inl j)]) (st' := []) (M' := M) rfl c_1 ?_
    rcases Int.lt_or_le (j) (53) with c_2 | c_2
    ·
      refine Wp.path (k := 4) [0] (C := [j < 53]) (pc' := 10) (ls' := [some (.inr (.inr (105, i))), some (.inl j)]) (st' := []) (M' := M) rfl c_2 ?_
      refine Wp.path (k := 4) [] (C := [0 ≤ j ∧ j < 53]) (pc' := 17) (ls' := [some (.inr (.inr (105, i))), some (.inl j)]) (st' := [.inl (M.1 105 i j.toNat)]) (M' := M) rfl (show 0 ≤ j ∧ j < 53 from ⟨by omega, by omega⟩) ?_
      exact Wp.ret rfl (⟨rfl, by unfold atN; (repeat' split) <;> first | rfl | (exfalso; omega)⟩)
    ·
      refine Wp.path (k := 4) [1] (C := [53 ≤ j]) (pc' := 16) (ls' := [some (.inr (.inr (105, i))), some (.inl j)]) (st' := []) (M' := M) rfl c_2 ?_
      refine Wp.path (k := 1) [] (C := []) (pc' := 17) (ls' := [some (.inr (.inr (105, i))), some (.inl j)]) (st' := [.inl 0]) (M' := M) rfl trivial ?_
      exact Wp.ret rfl (⟨rfl, by unfold atN; (repeat' split) <;> first | rfl | (exfalso; omega)⟩)
theorem put_105 {i : Nat} {j v : Int} {M : Mm}  : Ev 0 938 [.inr (.inr (105, i)), .inl j, .inl v] M (fun w M' => M' = setA M 105 i (putN 53 (M.1 105 i) j v) ∧ w = none) := by
  show Wp 0 938 0 [some (.inr (.inr (105, i))), some (.inl j), some (.inl v)] [] M _
  rcases Int.lt_or_le (j) (0) with c_1 | c_1
  ·
    refine Wp.path (k := 2) [1] (C := [j < 0]) (pc' := 14) (ls' := [some (.inr (.inr (105, i))), some (.inl j), some (.inl v)]) (st' := []) (M' := M) rfl c_1 ?_
    exact Wp.ret rfl (⟨putN_out (by omega), rfl⟩)
  ·
    refine Wp.path (k := 2) [0] (C := [0 ≤ j]) (pc' := 4) (ls' := [some (.inr (.inr (105, i))), some (.inl j), some (.inl v)]) (st' := []) (M' := M) rfl c_1 ?_
    rcases Int.lt_or_le (j) (53) with c_2 | c_2
    ·
      refine Wp.path (k := 4) [0] (C := [j < 53]) (pc' := 10) (ls' := [some (.inr (.inr (105, i))), some (.inl j), some (.inl v)]) (st' := []) (M' := M) rfl c_2 ?_
      refine Wp.path (k := 4) [] (C := [0 ≤ j ∧ j < 53]) (pc' := 14) (ls' := [some (.inr (.inr (105, i))), some (.inl j), some (.inl v)]) (st' := []) (M' := setI M 105 i j.toNat v) rfl (show 0 ≤ j ∧ j < 53 from ⟨by omega, by omega⟩) ?_
      exact Wp.ret rfl (⟨putN_in (by omega) (by omega), rfl⟩)
    ·
      refine Wp.path (k := 4) [1] (C := [53 ≤ j]) (pc' := 14) (ls' := [some (.inr (.inr (105, i))), some (.inl j), some (.inl v)]) (st' := []) (M' := M) rfl c_2 ?_
      exact Wp.ret rfl (⟨putN_out (by omega), rfl⟩)
theorem at_106 {i : Nat} {j : Int} {M : Mm}  : Ev 0 937 [.inr (.inr (106, i)), .inl j] M (fun v M' => M' = M ∧ v = some (.inl (atN 52 (M.1 106 i) j))) := by
  show Wp 0 937 0 [some (.inr (.inr (106, i))), some (.inl j)] [] M _
  rcases Int.lt_or_le (j) (0) with c_1 | c_1
  ·
    refine Wp.path (k := 2) [1] (C := [j < 0]) (pc' := 16) (ls' := [some (.inr (.inr (106, i))), some (.inl j)]) (st' := []) (M' := M) rfl c_1 ?_
    refine Wp.path (k := 1) [] (C := []) (pc' := 17) (ls' := [some (.inr (.inr (106, i))), some (.inl j)]) (st' := [.inl 0]) (M' := M) rfl trivial ?_
    exact Wp.ret rfl (⟨rfl, by unfold atN; (repeat' split) <;> first | rfl | (exfalso; omega)⟩)
  ·
    refine Wp.path (k := 2) [0] (C := [0 ≤ j]) (pc' := 4) (ls' := [some (.inr (.inr (106, i))), some (.inl j)]) (st' := []) (M' := M) rfl c_1 ?_
    rcases Int.lt_or_le (j) (52) with c_2 | c_2
    ·
      refine Wp.path (k := 4) [0] (C := [j < 52]) (pc' := 10) (ls' := [some (.inr (.inr (106, i))), some (.inl j)]) (st' := []) (M' := M) rfl c_2 ?_
      refine Wp.path (k := 4) [] (C := [0 ≤ j ∧ j < 52]) (pc' := 17) (ls' := [some (.inr (.inr (106, i))), some (.inl j)]) (st' := [.inl (M.1 106 i j.toNat)]) (M' := M) rfl (show 0 ≤ j ∧ j < 52 from ⟨by omega, by omega⟩) ?_
      exact Wp.ret rfl (⟨rfl, by unfold atN; (repeat' split) <;> first | rfl | (exfalso; omega)⟩)
    ·
      refine Wp.path (k := 4) [1] (C := [52 ≤ j]) (pc' := 16) (ls' := [some (.inr (.inr (106, i))), some (.inl j)]) (st' := []) (M' := M) rfl c_2 ?_
      refine Wp.path (k := 1) [] (C := []) (pc' := 17) (ls' := [some (.inr (.inr (106, i))), some (.inl j)]) (st' := [.inl 0]) (M' := M) rfl trivial ?_
      exact Wp.ret rfl (⟨rfl, by unfold atN; (repeat' split) <;> first | rfl | (exfalso; omega)⟩)
theorem put_106 {i : Nat} {j v : Int} {M : Mm}  : Ev 0 938 [.inr (.inr (106, i)), .inl j, .inl v] M (fun w M' => M' = setA M 106 i (putN 52 (M.1 106 i) j v) ∧ w = none) := by
  show Wp 0 938 0 [some (.inr (.inr (106, i))), some (.inl j), some (.inl v)] [] M _
  rcases Int.lt_or_le (j) (0) with c_1 | c_1
  ·
    refine Wp.path (k := 2) [1] (C := [j < 0]) (pc' := 14) (ls' := [some (.inr (.inr (106, i))), some (.inl j), some (.inl v)]) (st' := []) (M' := M) rfl c_1 ?_
    exact Wp.ret rfl (⟨putN_out (by omega), rfl⟩)
  ·
    refine Wp.path (k := 2) [0] (C := [0 ≤ j]) (pc' := 4) (ls' := [some (.inr (.inr (106, i))), some (.inl j), some (.inl v)]) (st' := []) (M' := M) rfl c_1 ?_
    rcases Int.lt_or_le (j) (52) with c_2 | c_2
    ·
      refine Wp.path (k := 4) [0] (C := [j < 52]) (pc' := 10) (ls' := [some (.inr (.inr (106, i))), some (.inl j), some (.inl v)]) (st' := []) (M' := M) rfl c_2 ?_
      refine Wp.path (k := 4) [] (C := [0 ≤ j ∧ j < 52]) (pc' := 14) (ls' := [some (.inr (.inr (106, i))), some (.inl j), some (.inl v)]) (st' := []) (M' := setI M 106 i j.toNat v) rfl (show 0 ≤ j ∧ j < 52 from ⟨by omega, by omega⟩) ?_
      exact Wp.ret rfl (⟨putN_in (by omega) (by omega), rfl⟩)
    ·
      refine Wp.path (k := 4) [1] (C := [52 ≤ j]) (pc' := 14) (ls' := [some (.inr (.inr (106, i))), some (.inl j), some (.inl v)]) (st' := []) (M' := M) rfl c_2 ?_
      exact Wp.ret rfl (⟨putN_out (by omega), rfl⟩)
theorem at_107 {i : Nat} {j : Int} {M : Mm}  : Ev 0 937 [.inr (.inr (107, i)), .inl j] M (fun v M' => M' = M ∧ v = some (.inl (atN 52 (M.1 107 i) j))) := by
  show Wp 0 937 0 [some (.inr (.inr (107, i))), some (.inl j)] [] M _
  rcases Int.lt_or_le (j) (0) with c_1 | c_1
  ·
    refine Wp.path (k := 2) [1] (C := [j < 0]) (pc' := 16) (ls' := [some (.inr (.inr (107, i))), some (.inl j)]) (st' := []) (M' := M) rfl c_1 ?_
    refine Wp.path (k := 1) [] (C := []) (pc' := 17) (ls' := [some (.inr (.inr (107, i))), some (.inl j)]) (st' := [.inl 0]) (M' := M) rfl trivial ?_
    exact Wp.ret rfl (⟨rfl, by unfold atN; (repeat' split) <;> first | rfl | (exfalso; omega)⟩)
  ·
    refine Wp.path (k := 2) [0] (C := [0 ≤ j]) (pc' := 4) (ls' := [some (.inr (.inr (107, i))), some (.inl j)]) (st' := []) (M' := M) rfl c_1 ?_
    rcases Int.lt_or_le (j) (52) with c_2 | c_2
    ·
      refine Wp.path (k := 4) [0] (C := [j < 52]) (pc' := 10) (ls' := [some (.inr (.inr (107, i))), some (.inl j)]) (st' := []) (M' := M) rfl c_2 ?_
      refine Wp.path (k := 4) [] (C := [0 ≤ j ∧ j < 52]) (pc' := 17) (ls' := [some (.inr (.inr (107, i))), some (.inl j)]) (st' := [.inl (M.1 107 i j.toNat)]) (M' := M) rfl (show 0 ≤ j ∧ j < 52 from ⟨by omega, by omega⟩) ?_
      exact Wp.ret rfl (⟨rfl, by unfold atN; (repeat' split) <;> first | rfl | (exfalso; omega)⟩)
    ·
      refine Wp.path (k := 4) [1] (C := [52 ≤ j]) (pc' := 16) (ls' := [some (.inr (.inr (107, i))), some (.inl j)]) (st' := []) (M' := M) rfl c_2 ?_
      refine Wp.path (k := 1) [] (C := []) (pc' := 17) (ls' := [some (.inr (.inr (107, i))), some (.inl j)]) (st' := [.inl 0]) (M' := M) rfl trivial ?_
      exact Wp.ret rfl (⟨rfl, by unfold atN; (repeat' split) <;> first | rfl | (exfalso; omega)⟩)
theorem put_107 {i : Nat} {j v : Int} {M : Mm}  : Ev 0 938 [.inr (.inr (107, i)), .inl j, .inl v] M (fun w M' => M' = setA M 107 i (putN 52 (M.1 107 i) j v) ∧ w = none) := by
  show Wp 0 938 0 [some (.inr (.inr (107, i))), some (.inl j), some (.inl v)] [] M _
  rcases Int.lt_or_le (j) (0) with c_1 | c_1
  ·
    refine Wp.path (k := 2) [1] (C := [j < 0]) (pc' := 14) (ls' := [some (.inr (.inr (107, i))), some (.inl j), some (.inl v)]) (st' := []) (M' := M) rfl c_1 ?_
    exact Wp.ret rfl (⟨putN_out (by omega), rfl⟩)
  ·
    refine Wp.path (k := 2) [0] (C := [0 ≤ j]) (pc' := 4) (ls' := [some (.inr (.inr (107, i))), some (.inl j), some (.inl v)]) (st' := []) (M' := M) rfl c_1 ?_
    rcases Int.lt_or_le (j) (52) with c_2 | c_2
    ·
      refine Wp.path (k := 4) [0] (C := [j < 52]) (pc' := 10) (ls' := [some (.inr (.inr (107, i))), some (.inl j), some (.inl v)]) (st' := []) (M' := M) rfl c_2 ?_
      refine Wp.path (k := 4) [] (C := [0 ≤ j ∧ j < 52]) (pc' := 14) (ls' := [some (.inr (.inr (107, i))), some (.inl j), some (.inl v)]) (st' := []) (M' := setI M 107 i j.toNat v) rfl (show 0 ≤ j ∧ j < 52 from ⟨by omega, by omega⟩) ?_
      exact Wp.ret rfl (⟨putN_in (by omega) (by omega), rfl⟩)
    ·
      refine Wp.path (k := 4) [1] (C := [52 ≤ j]) (pc' := 14) (ls' := [some (.inr (.inr (107, i))), some (.inl j), some (.inl v)]) (st' := []) (M' := M) rfl c_2 ?_
      exact Wp.ret rfl (⟨putN_out (by omega), rfl⟩)
theorem at_200 {i : Nat} {j : Int} {M : Mm}  : Ev 0 937 [.inr (.inr (200, i)), .inl j] M (fun v M' => M' = M ∧ v = some (.inl (atN 108 (M.1 200 i) j))) := by
  show Wp 0 937 0 [some (.inr (.inr (200, i))), some (.inl j)] [] M _
  rcases Int.lt_or_le (j) (0) with c_1 | c_1
  ·
    refine Wp.path (k := 2) [1] (C := [j < 0]) (pc' := 16) (ls' := [some (.inr (.inr (200, i))), some (.inl j)]) (st' := []) (M' := M) rfl c_1 ?_
    refine Wp.path (k := 1) [] (C := []) (pc' := 17) (ls' := [some (.inr (.inr (200, i))), some (.inl j)]) (st' := [.inl 0]) (M' := M) rfl trivial ?_
    exact Wp.ret rfl (⟨rfl, by unfold atN; (repeat' split) <;> first | rfl | (exfalso; omega)⟩)
  ·
    refine Wp.path (k := 2) [0] (C := [0 ≤ j]) (pc' := 4) (ls' := [some (.inr (.inr (200, i))), some (.inl j)]) (st' := []) (M' := M) rfl c_1 ?_
    rcases Int.lt_or_le (j) (108) with c_2 | c_2
    ·
      refine Wp.path (k := 4) [0] (C := [j < 108]) (pc' := 10) (ls' := [some (.inr (.inr (200, i))), some (.inl j)]) (st' := []) (M' := M) rfl c_2 ?_
      refine Wp.path (k := 4) [] (C := [0 ≤ j ∧ j < 108]) (pc' := 17) (ls' := [some (.inr (.inr (200, i))), some (.inl j)]) (st' := [.inl (M.1 200 i j.toNat)]) (M' := M) rfl (show 0 ≤ j ∧ j < 108 from ⟨by omega, by omega⟩) ?_
      exact Wp.ret rfl (⟨rfl, by unfold atN; (repeat' split) <;> first | rfl | (exfalso; omega)⟩)
    ·
      refine Wp.path (k := 4) [1] (C := [108 ≤ j]) (pc' := 16) (ls' := [some (.inr (.inr (200, i))), some (.inl j)]) (st' := []) (M' := M) rfl c_2 ?_
      refine Wp.path (k := 1) [] (C := []) (pc' := 17) (ls' := [some (.inr (.inr (200, i))), some (.inl j)]) (st' := [.inl 0]) (M' := M) rfl trivial ?_
      exact Wp.ret rfl (⟨rfl, by unfold atN; (repeat' split) <;> first | rfl | (exfalso; omega)⟩)
theorem put_200 {i : Nat} {j v : Int} {M : Mm}  : Ev 0 938 [.inr (.inr (200, i)), .inl j, .inl v] M (fun w M' => M' = setA M 200 i (putN 108 (M.1 200 i) j v) ∧ w = none) := by
  show Wp 0 938 0 [some (.inr (.inr (200, i))), some (.inl j), some (.inl v)] [] M _
  rcases Int.lt_or_le (j) (0) with c_1 | c_1
  ·
    refine Wp.path (k := 2) [1] (C := [j < 0]) (pc' := 14) (ls' := [some (.inr (.inr (200, i))), some (.inl j), some (.inl v)]) (st' := []) (M' := M) rfl c_1 ?_
    exact Wp.ret rfl (⟨putN_out (by omega), rfl⟩)
  ·
    refine Wp.path (k := 2) [0] (C := [0 ≤ j]) (pc' := 4) (ls' := [some (.inr (.inr (200, i))), some (.inl j), some (.inl v)]) (st' := []) (M' := M) rfl c_1 ?_
    rcases Int.lt_or_le (j) (108) with c_2 | c_2
    ·
      refine Wp.path (k := 4) [0] (C := [j < 108]) (pc' := 10) (ls' := [some (.inr (.inr (200, i))), some (.inl j), some (.inl v)]) (st' := []) (M' := M) rfl c_2 ?_
      refine Wp.path (k := 4) [] (C := [0 ≤ j ∧ j < 108]) (pc' := 14) (ls' := [some (.inr (.inr (200, i))), some (.inl j), some (.inl v)]) (st' := []) (M' := setI M 200 i j.toNat v) rfl (show 0 ≤ j ∧ j < 108 from ⟨by omega, by omega⟩) ?_
      exact Wp.ret rfl (⟨putN_in (by omega) (by omega), rfl⟩)
    ·
      refine Wp.path (k := 4) [1] (C := [108 ≤ j]) (pc' := 14) (ls' := [some (.inr (.inr (200, i))), some (.inl j), some (.inl v)]) (st' := []) (M' := M) rfl c_2 ?_
      exact Wp.ret rfl (⟨putN_out (by omega), rfl⟩)
theorem at_300 {i : Nat} {j : Int} {M : Mm}  : Ev 0 937 [.inr (.inr (300, i)), .inl j] M (fun v M' => M' = M ∧ v = some (.inl (atN 96 (M.1 300 i) j))) := by
  show Wp 0 937 0 [some (.inr (.inr (300, i))), some (.inl j)] [] M _
  rcases Int.lt_or_le (j) (0) with c_1 | c_1
  ·
    refine Wp.path (k := 2) [1] (C := [j < 0]) (pc' := 16) (ls' := [some (.inr (.inr (300, i))), some (.inl j)]) (st' := []) (M' := M) rfl c_1 ?_
    refine Wp.path (k := 1) [] (C := []) (pc' := 17) (ls' := [some (.inr (.inr (300, i))), some (.inl j)]) (st' := [.inl 0]) (M' := M) rfl trivial ?_
    exact Wp.ret rfl (⟨rfl, by unfold atN; (repeat' split) <;> first | rfl | (exfalso; omega)⟩)
  ·
    refine Wp.path (k := 2) [0] (C := [0 ≤ j]) (pc' := 4) (ls' := [some (.inr (.inr (300, i))), some (.inl j)]) (st' := []) (M' := M) rfl c_1 ?_
    rcases Int.lt_or_le (j) (96) with c_2 | c_2
    ·
      refine Wp.path (k := 4) [0] (C := [j < 96]) (pc' := 10) (ls' := [some (.inr (.inr (300, i))), some (.inl j)]) (st' := []) (M' := M) rfl c_2 ?_
      refine Wp.path (k := 4) [] (C := [0 ≤ j ∧ j < 96]) (pc' := 17) (ls' := [some (.inr (.inr (300, i))), some (.inl j)]) (st' := [.inl (M.1 300 i j.toNat)]) (M' := M) rfl (show 0 ≤ j ∧ j < 96 from ⟨by omega, by omega⟩) ?_
      exact Wp.ret rfl (⟨rfl, by unfold atN; (repeat' split) <;> first | rfl | (exfalso; omega)⟩)
    ·
      refine Wp.path (k := 4) [1] (C := [96 ≤ j]) (pc' := 16) (ls' := [some (.inr (.inr (300, i))), some (.inl j)]) (st' := []) (M' := M) rfl c_2 ?_
      refine Wp.path (k := 1) [] (C := []) (pc' := 17) (ls' := [some (.inr (.inr (300, i))), some (.inl j)]) (st' := [.inl 0]) (M' := M) rfl trivial ?_
      exact Wp.ret rfl (⟨rfl, by unfold atN; (repeat' split) <;> first | rfl | (exfalso; omega)⟩)
theorem put_300 {i : Nat} {j v : Int} {M : Mm}  : Ev 0 938 [.inr (.inr (300, i)), .inl j, .inl v] M (fun w M' => M' = setA M 300 i (putN 96 (M.1 300 i) j v) ∧ w = none) := by
  show Wp 0 938 0 [some (.inr (.inr (300, i))), some (.inl j), some (.inl v)] [] M _
  rcases Int.lt_or_le (j) (0) with c_1 | c_1
  ·
    refine Wp.path (k := 2) [1] (C := [j < 0]) (pc' := 14) (ls' := [some (.inr (.inr (300, i))), some (.inl j), some (.inl v)]) (st' := []) (M' := M) rfl c_1 ?_
    exact Wp.ret rfl (⟨putN_out (by omega), rfl⟩)
  ·
    refine Wp.path (k := 2) [0] (C := [0 ≤ j]) (pc' := 4) (ls' := [some (.inr (.inr (300, i))), some (.inl j), some (.inl v)]) (st' := []) (M' := M) rfl c_1 ?_
    rcases Int.lt_or_le (j) (96) with c_2 | c_2
    ·
      refine Wp.path (k := 4) [0] (C := [j < 96]) (pc' := 10) (ls' := [some (.inr (.inr (300, i))), some (.inl j), some (.inl v)]) (st' := []) (M' := M) rfl c_2 ?_
      refine Wp.path (k := 4) [] (C := [0 ≤ j ∧ j < 96]) (pc' := 14) (ls' := [some (.inr (.inr (300, i))), some (.inl j), some (.inl v)]) (st' := []) (M' := setI M 300 i j.toNat v) rfl (show 0 ≤ j ∧ j < 96 from ⟨by omega, by omega⟩) ?_
      exact Wp.ret rfl (⟨putN_in (by omega) (by omega), rfl⟩)
    ·
      refine Wp.path (k := 4) [1] (C := [96 ≤ j]) (pc' := 14) (ls' := [some (.inr (.inr (300, i))), some (.inl j), some (.inl v)]) (st' := []) (M' := M) rfl c_2 ?_
      exact Wp.ret rfl (⟨putN_out (by omega), rfl⟩)
theorem at_301 {i : Nat} {j : Int} {M : Mm}  : Ev 0 937 [.inr (.inr (301, i)), .inl j] M (fun v M' => M' = M ∧ v = some (.inl (atN 96 (M.1 301 i) j))) := by
  show Wp 0 937 0 [some (.inr (.inr (301, i))), some (.inl j)] [] M _
  rcases Int.lt_or_le (j) (0) with c_1 | c_1
  ·
    refine Wp.path (k := 2) [1] (C := [j < 0]) (pc' := 16) (ls' := [some (.inr (.inr (301, i))), some (.inl j)]) (st' := []) (M' := M) rfl c_1 ?_
    refine Wp.path (k := 1) [] (C := []) (pc' := 17) (ls' := [some (.inr (.inr (301, i))), some (.inl j)]) (st' := [.inl 0]) (M' := M) rfl trivial ?_
    exact Wp.ret rfl (⟨rfl, by unfold atN; (repeat' split) <;> first | rfl | (exfalso; omega)⟩)
  ·
    refine Wp.path (k := 2) [0] (C := [0 ≤ j]) (pc' := 4) (ls' := [some (.inr (.inr (301, i))), some (.inl j)]) (st' := []) (M' := M) rfl c_1 ?_
    rcases Int.lt_or_le (j) (96) with c_2 | c_2
    ·
      refine Wp.path (k := 4) [0] (C := [j < 96]) (pc' := 10) (ls' := [some (.inr (.inr (301, i))), some (.inl j)]) (st' := []) (M' := M) rfl c_2 ?_
      refine Wp.path (k := 4) [] (C := [0 ≤ j ∧ j < 96]) (pc' := 17) (ls' := [some (.inr (.inr (301, i))), some (.inl j)]) (st' := [.inl (M.1 301 i j.toNat)]) (M' := M) rfl (show 0 ≤ j ∧ j < 96 from ⟨by omega, by omega⟩) ?_
      exact Wp.ret rfl (⟨rfl, by unfold atN; (repeat' split) <;> first | rfl | (exfalso; omega)⟩)
    ·
      refine Wp.path (k := 4) [1] (C := [96 ≤ j]) (pc' := 16) (ls' := [some (.inr (.inr (301, i))), some (.inl j)]) (st' := []) (M' := M) rfl c_2 ?_
      refine Wp.path (k := 1) [] (C := []) (pc' := 17) (ls' := [some (.inr (.inr (301, i))), some (.inl j)]) (st' := [.inl 0]) (M' := M) rfl trivial ?_
      exact Wp.ret rfl (⟨rfl, by unfold atN; (repeat' split) <;> first | rfl | (exfalso; omega)⟩)
theorem put_301 {i : Nat} {j v : Int} {M : Mm}  : Ev 0 938 [.inr (.inr (301, i)), .inl j, .inl v] M (fun w M' => M' = setA M 301 i (putN 96 (M.1 301 i) j v) ∧ w = none) := by
  show Wp 0 938 0 [some (.inr (.inr (301, i))), some (.inl j), some (.inl v)] [] M _
  rcases Int.lt_or_le (j) (0) with c_1 | c_1
  ·
    refine Wp.path (k := 2) [1] (C := [j < 0]) (pc' := 14) (ls' := [some (.inr (.inr (301, i))), some (.inl j), some (.inl v)]) (st' := []) (M' := M) rfl c_1 ?_
    exact Wp.ret rfl (⟨putN_out (by omega), rfl⟩)
  ·
    refine Wp.path (k := 2) [0] (C := [0 ≤ j]) (pc' := 4) (ls' := [some (.inr (.inr (301, i))), some (.inl j), some (.inl v)]) (st' := []) (M' := M) rfl c_1 ?_
    rcases Int.lt_or_le (j) (96) with c_2 | c_2
    ·
      refine Wp.path (k := 4) [0] (C := [j < 96]) (pc' := 10) (ls' := [some (.inr (.inr (301, i))), some (.inl j), some (.inl v)]) (st' := []) (M' := M) rfl c_2 ?_
      refine Wp.path (k := 4) [] (C := [0 ≤ j ∧ j < 96]) (pc' := 14) (ls' := [some (.inr (.inr (301, i))), some (.inl j), some (.inl v)]) (st' := []) (M' := setI M 301 i j.toNat v) rfl (show 0 ≤ j ∧ j < 96 from ⟨by omega, by omega⟩) ?_
      exact Wp.ret rfl (⟨putN_in (by omega) (by omega), rfl⟩)
    ·
      refine Wp.path (k := 4) [1] (C := [96 ≤ j]) (pc' := 14) (ls' := [some (.inr (.inr (301, i))), some (.inl j), some (.inl v)]) (st' := []) (M' := M) rfl c_2 ?_
      exact Wp.ret rfl (⟨putN_out (by omega), rfl⟩)
theorem at_302 {i : Nat} {j : Int} {M : Mm}  : Ev 0 937 [.inr (.inr (302, i)), .inl j] M (fun v M' => M' = M ∧ v = some (.inl (atN 96 (M.1 302 i) j))) := by
  show Wp 0 937 0 [some (.inr (.inr (302, i))), some (.inl j)] [] M _
  rcases Int.lt_or_le (j) (0) with c_1 | c_1
  ·
    refine Wp.path (k := 2) [1] (C := [j < 0]) (pc' := 16) (ls' := [some (.inr (.inr (302, i))), some (.inl j)]) (st' := []) (M' := M) rfl c_1 ?_
    refine Wp.path (k := 1) [] (C := []) (pc' := 17) (ls' := [some (.inr (.inr (302, i))), some (.inl j)]) (st' := [.inl 0]) (M' := M) rfl trivial ?_
    exact Wp.ret rfl (⟨rfl, by unfold atN; (repeat' split) <;> first | rfl | (exfalso; omega)⟩)
  ·
    refine Wp.path (k := 2) [0] (C := [0 ≤ j]) (pc' := 4) (ls' := [some (.inr (.inr (302, i))), some (.inl j)]) (st' := []) (M' := M) rfl c_1 ?_
    rcases Int.lt_or_le (j) (96) with c_2 | c_2
    ·
      refine Wp.path (k := 4) [0] (C := [j < 96]) (pc' := 10) (ls' := [some (.inr (.inr (302, i))), some (.inl j)]) (st' := []) (M' := M) rfl c_2 ?_
      refine Wp.path (k := 4) [] (C := [0 ≤ j ∧ j < 96]) (pc' := 17) (ls' := [some (.inr (.inr (302, i))), some (.inl j)]) (st' := [.inl (M.1 302 i j.toNat)]) (M' := M) rfl (show 0 ≤ j ∧ j < 96 from ⟨by omega, by omega⟩) ?_
      exact Wp.ret rfl (⟨rfl, by unfold atN; (repeat' split) <;> first | rfl | (exfalso; omega)⟩)
    ·
      refine Wp.path (k := 4) [1] (C := [96 ≤ j]) (pc' := 16) (ls' := [some (.inr (.inr (302, i))), some (.inl j)]) (st' := []) (M' := M) rfl c_2 ?_
      refine Wp.path (k := 1) [] (C := []) (pc' := 17) (ls' := [some (.inr (.inr (302, i))), some (.inl j)]) (st' := [.inl 0]) (M' := M) rfl trivial ?_
      exact Wp.ret rfl (⟨rfl, by unfold atN; (repeat' split) <;> first | rfl | (exfalso; omega)⟩)
theorem put_302 {i : Nat} {j v : Int} {M : Mm}  : Ev 0 938 [.inr (.inr (302, i)), .inl j, .inl v] M (fun w M' => M' = setA M 302 i (putN 96 (M.1 302 i) j v) ∧ w = none) := by
  show Wp 0 938 0 [some (.inr (.inr (302, i))), some (.inl j), some (.inl v)] [] M _
  rcases Int.lt_or_le (j) (0) with c_1 | c_1
  ·
    refine Wp.path (k := 2) [1] (C := [j < 0]) (pc' := 14) (ls' := [some (.inr (.inr (302, i))), some (.inl j), some (.inl v)]) (st' := []) (M' := M) rfl c_1 ?_
    exact Wp.ret rfl (⟨putN_out (by omega), rfl⟩)
  ·
    refine Wp.path (k := 2) [0] (C := [0 ≤ j]) (pc' := 4) (ls' := [some (.inr (.inr (302, i))), some (.inl j), some (.inl v)]) (st' := []) (M' := M) rfl c_1 ?_
    rcases Int.lt_or_le (j) (96) with c_2 | c_2
    ·
      refine Wp.path (k := 4) [0] (C := [j < 96]) (pc' := 10) (ls' := [some (.inr (.inr (302, i))), some (.inl j), some (.inl v)]) (st' := []) (M' := M) rfl c_2 ?_
      refine Wp.path (k := 4) [] (C := [0 ≤ j ∧ j < 96]) (pc' := 14) (ls' := [some (.inr (.inr (302, i))), some (.inl j), some (.inl v)]) (st' := []) (M' := setI M 302 i j.toNat v) rfl (show 0 ≤ j ∧ j < 96 from ⟨by omega, by omega⟩) ?_
      exact Wp.ret rfl (⟨putN_in (by omega) (by omega), rfl⟩)
    ·
      refine Wp.path (k := 4) [1] (C := [96 ≤ j]) (pc' := 14) (ls' := [some (.inr (.inr (302, i))), some (.inl j), some (.inl v)]) (st' := []) (M' := M) rfl c_2 ?_
      exact Wp.ret rfl (⟨putN_out (by omega), rfl⟩)
theorem at_303 {i : Nat} {j : Int} {M : Mm}  : Ev 0 937 [.inr (.inr (303, i)), .inl j] M (fun v M' => M' = M ∧ v = some (.inl (atN 96 (M.1 303 i) j))) := by
  show Wp 0 937 0 [some (.inr (.inr (303, i))), some (.inl j)] [] M _
  rcases Int.lt_or_le (j) (0) with c_1 | c_1
  ·
    refine Wp.path (k := 2) [1] (C := [j < 0]) (pc' := 16) (ls' := [some (.inr (.inr (303, i))), some (.inl j)]) (st' := []) (M' := M) rfl c_1 ?_
    refine Wp.path (k := 1) [] (C := []) (pc' := 17) (ls' := [some (.inr (.inr (303, i))), some (.inl j)]) (st' := [.inl 0]) (M' := M) rfl trivial ?_
    exact Wp.ret rfl (⟨rfl, by unfold atN; (repeat' split) <;> first | rfl | (exfalso; omega)⟩)
  ·
    refine Wp.path (k := 2) [0] (C := [0 ≤ j]) (pc' := 4) (ls' := [some (.inr (.inr (303, i))), some (.inl j)]) (st' := []) (M' := M) rfl c_1 ?_
    rcases Int.lt_or_le (j) (96) with c_2 | c_2
    ·
      refine Wp.path (k := 4) [0] (C := [j < 96]) (pc' := 10) (ls' := [some (.inr (.inr (303, i))), some (.inl j)]) (st' := []) (M' := M) rfl c_2 ?_
      refine Wp.path (k := 4) [] (C := [0 ≤ j ∧ j < 96]) (pc' := 17) (ls' := [some (.inr (.inr (303, i))), some (.inl j)]) (st' := [.inl (M.1 303 i j.toNat)]) (M' := M) rfl (show 0 ≤ j ∧ j < 96 from ⟨by omega, by omega⟩) ?_
      exact Wp.ret rfl (⟨rfl, by unfold atN; (repeat' split) <;> first | rfl | (exfalso; omega)⟩)
    ·
      refine Wp.path (k := 4) [1] (C := [96 ≤ j]) (pc' := 16) (ls' := [some (.inr (.inr (303, i))), some (.inl j)]) (st' := []) (M' := M) rfl c_2 ?_
      refine Wp.path (k := 1) [] (C := []) (pc' := 17) (ls' := [some (.inr (.inr (303, i))), some (.inl j)]) (st' := [.inl 0]) (M' := M) rfl trivial ?_
      exact Wp.ret rfl (⟨rfl, by unfold atN; (repeat' split) <;> first | rfl | (exfalso; omega)⟩)
theorem put_303 {i : Nat} {j v : Int} {M : Mm}  : Ev 0 938 [.inr (.inr (303, i)), .inl j, .inl v] M (fun w M' => M' = setA M 303 i (putN 96 (M.1 303 i) j v) ∧ w = none) := by
  show Wp 0 938 0 [some (.inr (.inr (303, i))), some (.inl j), some (.inl v)] [] M _
  rcases Int.lt_or_le (j) (0) with c_1 | c_1
  ·
    refine Wp.path (k := 2) [1] (C := [j < 0]) (pc' := 14) (ls' := [some (.inr (.inr (303, i))), some (.inl j), some (.inl v)]) (st' := []) (M' := M) rfl c_1 ?_
    exact Wp.ret rfl (⟨putN_out (by omega), rfl⟩)
  ·
    refine Wp.path (k := 2) [0] (C := [0 ≤ j]) (pc' := 4) (ls' := [some (.inr (.inr (303, i))), some (.inl j), some (.inl v)]) (st' := []) (M' := M) rfl c_1 ?_
    rcases Int.lt_or_le (j) (96) with c_2 | c_2
    ·
      refine Wp.path (k := 4) [0] (C := [j < 96]) (pc' := 10) (ls' := [some (.inr (.inr (303, i))), some (.inl j), some (.inl v)]) (st' := []) (M' := M) rfl c_2 ?_
      refine Wp.path (k := 4) [] (C := [0 ≤ j ∧ j < 96]) (pc' := 14) (ls' := [some (.inr (.inr (303, i))), some (.inl j), some (.inl v)]) (st' := []) (M' := setI M 303 i j.toNat v) rfl (show 0 ≤ j ∧ j < 96 from ⟨by omega, by omega⟩) ?_
      exact Wp.ret rfl (⟨putN_in (by omega) (by omega), rfl⟩)
    ·
      refine Wp.path (k := 4) [1] (C := [96 ≤ j]) (pc' := 14) (ls' := [some (.inr (.inr (303, i))), some (.inl j), some (.inl v)]) (st' := []) (M' := M) rfl c_2 ?_
      exact Wp.ret rfl (⟨putN_out (by omega), rfl⟩)
theorem at_304 {i : Nat} {j : Int} {M : Mm}  : Ev 0 937 [.inr (.inr (304, i)), .inl j] M (fun v M' => M' = M ∧ v = some (.inl (atN 96 (M.1 304 i) j))) := by
  show Wp 0 937 0 [some (.inr (.inr (304, i))), some (.inl j)] [] M _
  rcases Int.lt_or_le (j) (0) with c_1 | c_1
  ·
    refine Wp.path (k := 2) [1] (C := [j < 0]) (pc' := 16) (ls' := [some (.inr (.inr (304, i))), some (.inl j)]) (st' := []) (M' := M) rfl c_1 ?_
    refine Wp.path (k := 1) [] (C := []) (pc' := 17) (ls' := [some (.inr (.inr (304, i))), some (.inl j)]) (st' := [.inl 0]) (M' := M) rfl trivial ?_
    exact Wp.ret rfl (⟨rfl, by unfold atN; (repeat' split) <;> first | rfl | (exfalso; omega)⟩)
  ·
    refine Wp.path (k := 2) [0] (C := [0 ≤ j]) (pc' := 4) (ls' := [some (.inr (.inr (304, i))), some (.inl j)]) (st' := []) (M' := M) rfl c_1 ?_
    rcases Int.lt_or_le (j) (96) with c_2 | c_2
    ·
      refine Wp.path (k := 4) [0] (C := [j < 96]) (pc' := 10) (ls' := [some (.inr (.inr (304, i))), some (.inl j)]) (st' := []) (M' := M) rfl c_2 ?_
      refine Wp.path (k := 4) [] (C := [0 ≤ j ∧ j < 96]) (pc' := 17) (ls' := [some (.inr (.inr (304, i))), some (.inl j)]) (st' := [.inl (M.1 304 i j.toNat)]) (M' := M) rfl (show 0 ≤ j ∧ j < 96 from ⟨by omega, by omega⟩) ?_
      exact Wp.ret rfl (⟨rfl, by unfold atN; (repeat' split) <;> first | rfl | (exfalso; omega)⟩)
    ·
      refine Wp.path (k := 4) [1] (C := [96 ≤ j]) (pc' := 16) (ls' := [some (.inr (.inr (304, i))), some (.inl j)]) (st' := []) (M' := M) rfl c_2 ?_
      refine Wp.path (k := 1) [] (C := []) (pc' := 17) (ls' := [some (.inr (.inr (304, i))), some (.inl j)]) (st' := [.inl 0]) (M' := M) rfl trivial ?_
      exact Wp.ret rfl (⟨rfl, by unfold atN; (repeat' split) <;> first | rfl | (exfalso; omega)⟩)
theorem put_304 {i : Nat} {j v : Int} {M : Mm}  : Ev 0 938 [.inr (.inr (304, i)), .inl j, .inl v] M (fun w M' => M' = setA M 304 i (putN 96 (M.1 304 i) j v) ∧ w = none) := by
  show Wp 0 938 0 [some (.inr (.inr (304, i))), some (.inl j), some (.inl v)] [] M _
  rcases Int.lt_or_le (j) (0) with c_1 | c_1
  ·
    refine Wp.path (k := 2) [1] (C := [j < 0]) (pc' := 14) (ls' := [some (.inr (.inr (304, i))), some (.inl j), some (.inl v)]) (st' := []) (M' := M) rfl c_1 ?_
    exact Wp.ret rfl (⟨putN_out (by omega), rfl⟩)
  ·
    refine Wp.path (k := 2) [0] (C := [0 ≤ j]) (pc' := 4) (ls' := [some (.inr (.inr (304, i))), some (.inl j), some (.inl v)]) (st' := []) (M' := M) rfl c_1 ?_
    rcases Int.lt_or_le (j) (96) with c_2 | c_2
    ·
      refine Wp.path (k := 4) [0] (C := [j < 96]) (pc' := 10) (ls' := [some (.inr (.inr (304, i))), some (.inl j), some (.inl v)]) (st' := []) (M' := M) rfl c_2 ?_
      refine Wp.path (k := 4) [] (C := [0 ≤ j ∧ j < 96]) (pc' := 14) (ls' := [some (.inr (.inr (304, i))), some (.inl j), some (.inl v)]) (st' := []) (M' := setI M 304 i j.toNat v) rfl (show 0 ≤ j ∧ j < 96 from ⟨by omega, by omega⟩) ?_
      exact Wp.ret rfl (⟨putN_in (by omega) (by omega), rfl⟩)
    ·
      refine Wp.path (k := 4) [1] (C := [96 ≤ j]) (pc' := 14) (ls' := [some (.inr (.inr (304, i))), some (.inl j), some (.inl v)]) (st' := []) (M' := M) rfl c_2 ?_
      exact Wp.ret rfl (⟨putN_out (by omega), rfl⟩)
theorem at_305 {i : Nat} {j : Int} {M : Mm}  : Ev 0 937 [.inr (.inr (305, i)), .inl j] M (fun v M' => M' = M ∧ v = some (.inl (atN 340 (M.1 305 i) j))) := by
  show Wp 0 937 0 [some (.inr (.inr (305, i))), some (.inl j)] [] M _
  rcases Int.lt_or_le (j) (0) with c_1 | c_1
  ·
    refine Wp.path (k := 2) [1] (C := [j < 0]) (pc' := 16) (ls' := [some (.inr (.inr (305, i))), some (.inl j)]) (st' := []) (M' := M) rfl c_1 ?_
    refine Wp.path (k := 1) [] (C := []) (pc' := 17) (ls' := [some (.inr (.inr (305, i))), some (.inl j)]) (st' := [.inl 0]) (M' := M) rfl trivial ?_
    exact Wp.ret rfl (⟨rfl, by unfold atN; (repeat' split) <;> first | rfl | (exfalso; omega)⟩)
  ·
    refine Wp.path (k := 2) [0] (C := [0 ≤ j]) (pc' := 4) (ls' := [some (.inr (.inr (305, i))), some (.inl j)]) (st' := []) (M' := M) rfl c_1 ?_
    rcases Int.lt_or_le (j) (340) with c_2 | c_2
    ·
      refine Wp.path (k := 4) [0] (C := [j < 340]) (pc' := 10) (ls' := [some (.inr (.inr (305, i))), some (.inl j)]) (st' := []) (M' := M) rfl c_2 ?_
      refine Wp.path (k := 4) [] (C := [0 ≤ j ∧ j < 340]) (pc' := 17) (ls' := [some (.inr (.inr (305, i))), some (.inl j)]) (st' := [.inl (M.1 305 i j.toNat)]) (M' := M) rfl (show 0 ≤ j ∧ j < 340 from ⟨by omega, by omega⟩) ?_
      exact Wp.ret rfl (⟨rfl, by unfold atN; (repeat' split) <;> first | rfl | (exfalso; omega)⟩)
    ·
      refine Wp.path (k := 4) [1] (C := [340 ≤ j]) (pc' := 16) (ls' := [some (.inr (.inr (305, i))), some (.inl j)]) (st' := []) (M' := M) rfl c_2 ?_
      refine Wp.path (k := 1) [] (C := []) (pc' := 17) (ls' := [some (.inr (.inr (305, i))), some (.inl j)]) (st' := [.inl 0]) (M' := M) rfl trivial ?_
      exact Wp.ret rfl (⟨rfl, by unfold atN; (repeat' split) <;> first | rfl | (exfalso; omega)⟩)
theorem put_305 {i : Nat} {j v : Int} {M : Mm}  : Ev 0 938 [.inr (.inr (305, i)), .inl j, .inl v] M (fun w M' => M' = setA M 305 i (putN 340 (M.1 305 i) j v) ∧ w = none) := by
  show Wp 0 938 0 [some (.inr (.inr (305, i))), some (.inl j), some (.inl v)] [] M _
  rcases Int.lt_or_le (j) (0) with c_1 | c_1
  ·
    refine Wp.path (k := 2) [1] (C := [j < 0]) (pc' := 14) (ls' := [some (.inr (.inr (305, i))), some (.inl j), some (.inl v)]) (st' := []) (M' := M) rfl c_1 ?_
    exact Wp.ret rfl (⟨putN_out (by omega), rfl⟩)
  ·
    refine Wp.path (k := 2) [0] (C := [0 ≤ j]) (pc' := 4) (ls' := [some (.inr (.inr (305, i))), some (.inl j), some (.inl v)]) (st' := []) (M' := M) rfl c_1 ?_
    rcases Int.lt_or_le (j) (340) with c_2 | c_2
    ·
      refine Wp.path (k := 4) [0] (C := [j < 340]) (pc' := 10) (ls' := [some (.inr (.inr (305, i))), some (.inl j), some (.inl v)]) (st' := []) (M' := M) rfl c_2 ?_
      refine Wp.path (k := 4) [] (C := [0 ≤ j ∧ j < 340]) (pc' := 14) (ls' := [some (.inr (.inr (305, i))), some (.inl j), some (.inl v)]) (st' := []) (M' := setI M 305 i j.toNat v) rfl (show 0 ≤ j ∧ j < 340 from ⟨by omega, by omega⟩) ?_
      exact Wp.ret rfl (⟨putN_in (by omega) (by omega), rfl⟩)
    ·
      refine Wp.path (k := 4) [1] (C := [340 ≤ j]) (pc' := 14) (ls' := [some (.inr (.inr (305, i))), some (.inl j), some (.inl v)]) (st' := []) (M' := M) rfl c_2 ?_
      exact Wp.ret rfl (⟨putN_out (by omega), rfl⟩)
theorem at_306 {i : Nat} {j : Int} {M : Mm}  : Ev 0 937 [.inr (.inr (306, i)), .inl j] M (fun v M' => M' = M ∧ v = some (.inl (atN 340 (M.1 306 i) j))) := by
  show Wp 0 937 0 [some (.inr (.inr (306, i))), some (.inl j)] [] M _
  rcases Int.lt_or_le (j) (0) with c_1 | c_1
  ·
    refine Wp.path (k := 2) [1] (C := [j < 0]) (pc' := 16) (ls' := [some (.inr (.inr (306, i))), some (.inl j)]) (st' := []) (M' := M) rfl c_1 ?_
    refine Wp.path (k := 1) [] (C := []) (pc' := 17) (ls' := [some (.inr (.inr (306, i))), some (.inl j)]) (st' := [.inl 0]) (M' := M) rfl trivial ?_
    exact Wp.ret rfl (⟨rfl, by unfold atN; (repeat' split) <;> first | rfl | (exfalso; omega)⟩)
  ·
    refine Wp.path (k := 2) [0] (C := [0 ≤ j]) (pc' := 4) (ls' := [some (.inr (.inr (306, i))), some (.inl j)]) (st' := []) (M' := M) rfl c_1 ?_
    rcases Int.lt_or_le (j) (340) with c_2 | c_2
    ·
      refine Wp.path (k := 4) [0] (C := [j < 340]) (pc' := 10) (ls' := [some (.inr (.inr (306, i))), some (.inl j)]) (st' := []) (M' := M) rfl c_2 ?_
      refine Wp.path (k := 4) [] (C := [0 ≤ j ∧ j < 340]) (pc' := 17) (ls' := [some (.inr (.inr (306, i))), some (.inl j)]) (st' := [.inl (M.1 306 i j.toNat)]) (M' := M) rfl (show 0 ≤ j ∧ j < 340 from ⟨by omega, by omega⟩) ?_
      exact Wp.ret rfl (⟨rfl, by unfold atN; (repeat' split) <;> first | rfl | (exfalso; omega)⟩)
    ·
      refine Wp.path (k := 4) [1] (C := [340 ≤ j]) (pc' := 16) (ls' := [some (.inr (.inr (306, i))), some (.inl j)]) (st' := []) (M' := M) rfl c_2 ?_
      refine Wp.path (k := 1) [] (C := []) (pc' := 17) (ls' := [some (.inr (.inr (306, i))), some (.inl j)]) (st' := [.inl 0]) (M' := M) rfl trivial ?_
      exact Wp.ret rfl (⟨rfl, by unfold atN; (repeat' split) <;> first | rfl | (exfalso; omega)⟩)
theorem put_306 {i : Nat} {j v : Int} {M : Mm}  : Ev 0 938 [.inr (.inr (306, i)), .inl j, .inl v] M (fun w M' => M' = setA M 306 i (putN 340 (M.1 306 i) j v) ∧ w = none) := by
  show Wp 0 938 0 [some (.inr (.inr (306, i))), some (.inl j), some (.inl v)] [] M _
  rcases Int.lt_or_le (j) (0) with c_1 | c_1
  ·
    refine Wp.path (k := 2) [1] (C := [j < 0]) (pc' := 14) (ls' := [some (.inr (.inr (306, i))), some (.inl j), some (.inl v)]) (st' := []) (M' := M) rfl c_1 ?_
    exact Wp.ret rfl (⟨putN_out (by omega), rfl⟩)
  ·
    refine Wp.path (k := 2) [0] (C := [0 ≤ j]) (pc' := 4) (ls' := [some (.inr (.inr (306, i))), some (.inl j), some (.inl v)]) (st' := []) (M' := M) rfl c_1 ?_
    rcases Int.lt_or_le (j) (340) with c_2 | c_2
    ·
      refine Wp.path (k := 4) [0] (C := [j < 340]) (pc' := 10) (ls' := [some (.inr (.inr (306, i))), some (.inl j), some (.inl v)]) (st' := []) (M' := M) rfl c_2 ?_
      refine Wp.path (k := 4) [] (C := [0 ≤ j ∧ j < 340]) (pc' := 14) (ls' := [some (.inr (.inr (306, i))), some (.inl j), some (.inl v)]) (st' := []) (M' := setI M 306 i j.toNat v) rfl (show 0 ≤ j ∧ j < 340 from ⟨by omega, by omega⟩) ?_
      exact Wp.ret rfl (⟨putN_in (by omega) (by omega), rfl⟩)
    ·
      refine Wp.path (k := 4) [1] (C := [340 ≤ j]) (pc' := 14) (ls' := [some (.inr (.inr (306, i))), some (.inl j), some (.inl v)]) (st' := []) (M' := M) rfl c_2 ?_
      exact Wp.ret rfl (⟨putN_out (by omega), rfl⟩)
theorem at_307 {i : Nat} {j : Int} {M : Mm}  : Ev 0 937 [.inr (.inr (307, i)), .inl j] M (fun v M' => M' = M ∧ v = some (.inl (atN 340 (M.1 307 i) j))) := by
  show Wp 0 937 0 [some (.inr (.inr (307, i))), some (.inl j)] [] M _
  rcases Int.lt_or_le (j) (0) with c_1 | c_1
  ·
    refine Wp.path (k := 2) [1] (C := [j < 0]) (pc' := 16) (ls' := [some (.inr (.inr (307, i))), some (.inl j)]) (st' := []) (M' := M) rfl c_1 ?_
    refine Wp.path (k := 1) [] (C := []) (pc' := 17) (ls' := [some (.inr (.inr (307, i))), some (.inl j)]) (st' := [.inl 0]) (M' := M) rfl trivial ?_
    exact Wp.ret rfl (⟨rfl, by unfold atN; (repeat' split) <;> first | rfl | (exfalso; omega)⟩)
  ·
    refine Wp.path (k := 2) [0] (C := [0 ≤ j]) (pc' := 4) (ls' := [some (.inr (.inr (307, i))), some (.inl j)]) (st' := []) (M' := M) rfl c_1 ?_
    rcases Int.lt_or_le (j) (340) with c_2 | c_2
    ·
      refine Wp.path (k := 4) [0] (C := [j < 340]) (pc' := 10) (ls' := [some (.inr (.inr (307, i))), some (.inl j)]) (st' := []) (M' := M) rfl c_2 ?_
      refine Wp.path (k := 4) [] (C := [0 ≤ j ∧ j < 340]) (pc' := 17) (ls' := [some (.inr (.inr (307, i))), some (.inl j)]) (st' := [.inl (M.1 307 i j.toNat)]) (M' := M) rfl (show 0 ≤ j ∧ j < 340 from ⟨by omega, by omega⟩) ?_
      exact Wp.ret rfl (⟨rfl, by unfold atN; (repeat' split) <;> first | rfl | (exfalso; omega)⟩)
    ·
      refine Wp.path (k := 4) [1] (C := [340 ≤ j]) (pc' := 16) (ls' := [some (.inr (.inr (307, i))), some (.inl j)]) (st' := []) (M' := M) rfl c_2 ?_
      refine Wp.path (k := 1) [] (C := []) (pc' := 17) (ls' := [some (.inr (.inr (307, i))), some (.inl j)]) (st' := [.inl 0]) (M' := M) rfl trivial ?_
      exact Wp.ret rfl (⟨rfl, by unfold atN; (repeat' split) <;> first | rfl | (exfalso; omega)⟩)
theorem put_307 {i : Nat} {j v : Int} {M : Mm}  : Ev 0 938 [.inr (.inr (307, i)), .inl j, .inl v] M (fun w M' => M' = setA M 307 i (putN 340 (M.1 307 i) j v) ∧ w = none) := by
  show Wp 0 938 0 [some (.inr (.inr (307, i))), some (.inl j), some (.inl v)] [] M _
  rcases Int.lt_or_le (j) (0) with c_1 | c_1
  ·
    refine Wp.path (k := 2) [1] (C := [j < 0]) (pc' := 14) (ls' := [some (.inr (.inr (307, i))), some (.inl j), some (.inl v)]) (st' := []) (M' := M) rfl c_1 ?_
    exact Wp.ret rfl (⟨putN_out (by omega), rfl⟩)
  ·
    refine Wp.path (k := 2) [0] (C := [0 ≤ j]) (pc' := 4) (ls' := [some (.inr (.inr (307, i))), some (.inl j), some (.inl v)]) (st' := []) (M' := M) rfl c_1 ?_
    rcases Int.lt_or_le (j) (340) with c_2 | c_2
    ·
      refine Wp.path (k := 4) [0] (C := [j < 340]) (pc' := 10) (ls' := [some (.inr (.inr (307, i))), some (.inl j), some (.inl v)]) (st' := []) (M' := M) rfl c_2 ?_
      refine Wp.path (k := 4) [] (C := [0 ≤ j ∧ j < 340]) (pc' := 14) (ls' := [some (.inr (.inr (307, i))), some (.inl j), some (.inl v)]) (st' := []) (M' := setI M 307 i j.toNat v) rfl (show 0 ≤ j ∧ j < 340 from ⟨by omega, by omega⟩) ?_
      exact Wp.ret rfl (⟨putN_in (by omega) (by omega), rfl⟩)
    ·
      refine Wp.path (k := 4) [1] (C := [340 ≤ j]) (pc' := 14) (ls' := [some (.inr (.inr (307, i))), some (.inl j), some (.inl v)]) (st' := []) (M' := M) rfl c_2 ?_
      exact Wp.ret rfl (⟨putN_out (by omega), rfl⟩)
theorem at_308 {i : Nat} {j : Int} {M : Mm}  : Ev 0 937 [.inr (.inr (308, i)), .inl j] M (fun v M' => M' = M ∧ v = some (.inl (atN 340 (M.1 308 i) j))) := by
  show Wp 0 937 0 [some (.inr (.inr (308, i))), some (.inl j)] [] M _
  rcases Int.lt_or_le (j) (0) with c_1 | c_1
  ·
    refine Wp.path (k := 2) [1] (C := [j < 0]) (pc' := 16) (ls' := [some (.inr (.inr (308, i))), some (.inl j)]) (st' := []) (M' := M) rfl c_1 ?_
    refine Wp.path (k := 1) [] (C := []) (pc' := 17) (ls' := [some (.inr (.inr (308, i))), some (.inl j)]) (st' := [.inl 0]) (M' := M) rfl trivial ?_
    exact Wp.ret rfl (⟨rfl, by unfold atN; (repeat' split) <;> first | rfl | (exfalso; omega)⟩)
  ·
    refine Wp.path (k := 2) [0] (C := [0 ≤ j]) (pc' := 4) (ls' := [some (.inr (.inr (308, i))), some (.inl j)]) (st' := []) (M' := M) rfl c_1 ?_
    rcases Int.lt_or_le (j) (340) with c_2 | c_2
    ·
      refine Wp.path (k := 4) [0] (C := [j < 340]) (pc' := 10) (ls' := [some (.inr (.inr (308, i))), some (.inl j)]) (st' := []) (M' := M) rfl c_2 ?_
      refine Wp.path (k := 4) [] (C := [0 ≤ j ∧ j < 340]) (pc' := 17) (ls' := [some (.inr (.inr (308, i))), some (.inl j)]) (st' := [.inl (M.1 308 i j.toNat)]) (M' := M) rfl (show 0 ≤ j ∧ j < 340 from ⟨by omega, by omega⟩) ?_
      exact Wp.ret rfl (⟨rfl, by unfold atN; (repeat' split) <;> first | rfl | (exfalso; omega)⟩)
    ·
      refine Wp.path (k := 4) [1] (C := [340 ≤ j]) (pc' := 16) (ls' := [some (.inr (.inr (308, i))), some (.inl j)]) (st' := []) (M' := M) rfl c_2 ?_
      refine Wp.path (k := 1) [] (C := []) (pc' := 17) (ls' := [some (.inr (.inr (308, i))), some (.inl j)]) (st' := [.inl 0]) (M' := M) rfl trivial ?_
      exact Wp.ret rfl (⟨rfl, by unfold atN; (repeat' split) <;> first | rfl | (exfalso; omega)⟩)
theorem put_308 {i : Nat} {j v : Int} {M : Mm}  : Ev 0 938 [.inr (.inr (308, i)), .inl j, .inl v] M (fun w M' => M' = setA M 308 i (putN 340 (M.1 308 i) j v) ∧ w = none) := by
  show Wp 0 938 0 [some (.inr (.inr (308, i))), some (.inl j), some (.inl v)] [] M _
  rcases Int.lt_or_le (j) (0) with c_1 | c_1
  ·
    refine Wp.path (k := 2) [1] (C := [j < 0]) (pc' := 14) (ls' := [some (.inr (.inr (308, i))), some (.inl j), some (.inl v)]) (st' := []) (M' := M) rfl c_1 ?_
    exact Wp.ret rfl (⟨putN_out (by omega), rfl⟩)
  ·
    refine Wp.path (k := 2) [0] (C := [0 ≤ j]) (pc' := 4) (ls' := [some (.inr (.inr (308, i))), some (.inl j), some (.inl v)]) (st' := []) (M' := M) rfl c_1 ?_
    rcases Int.lt_or_le (j) (340) with c_2 | c_2
    ·
      refine Wp.path (k := 4) [0] (C := [j < 340]) (pc' := 10) (ls' := [some (.inr (.inr (308, i))), some (.inl j), some (.inl v)]) (st' := []) (M' := M) rfl c_2 ?_
      refine Wp.path (k := 4) [] (C := [0 ≤ j ∧ j < 340]) (pc' := 14) (ls' := [some (.inr (.inr (308, i))), some (.inl j), some (.inl v)]) (st' := []) (M' := setI M 308 i j.toNat v) rfl (show 0 ≤ j ∧ j < 340 from ⟨by omega, by omega⟩) ?_
      exact Wp.ret rfl (⟨putN_in (by omega) (by omega), rfl⟩)
    ·
      refine Wp.path (k := 4) [1] (C := [340 ≤ j]) (pc' := 14) (ls' := [some (.inr (.inr (308, i))), some (.inl j), some (.inl v)]) (st' := []) (M' := M) rfl c_2 ?_
      exact Wp.ret rfl (⟨putN_out (by omega), rfl⟩)
theorem at_402 {i : Nat} {j : Int} {M : Mm}  : Ev 0 937 [.inr (.inr (402, i)), .inl j] M (fun v M' => M' = M ∧ v = some (.inl (atN 49 (M.1 402 i) j))) := by
  show Wp 0 937 0 [some (.inr (.inr (402, i))), some (.inl j)] [] M _
  rcases Int.lt_or_le (j) (0) with c_1 | c_1
  ·
    refine Wp.path (k := 2) [1] (C := [j < 0]) (pc' := 16) (ls' := [some (.inr (.inr (402, i))), some (.inl j)]) (st' := []) (M' := M) rfl c_1 ?_
    refine Wp.path (k := 1) [] (C := []) (pc' := 17) (ls' := [some (.inr (.inr (402, i))), some (.inl j)]) (st' := [.inl 0]) (M' := M) rfl trivial ?_
    exact Wp.ret rfl (⟨rfl, by unfold atN; (repeat' split) <;> first | rfl | (exfalso; omega)⟩)
  ·
    refine Wp.path (k := 2) [0] (C := [0 ≤ j]) (pc' := 4) (ls' := [some (.inr (.inr (402, i))), some (.inl j)]) (st' := []) (M' := M) rfl c_1 ?_
    rcases Int.lt_or_le (j) (49) with c_2 | c_2
    ·
      refine Wp.path (k := 4) [0] (C := [j < 49]) (pc' := 10) (ls' := [some (.inr (.inr (402, i))), some (.inl j)]) (st' := []) (M' := M) rfl c_2 ?_
      refine Wp.path (k := 4) [] (C := [0 ≤ j ∧ j < 49]) (pc' := 17) (ls' := [some (.inr (.inr (402, i))), some (.inl j)]) (st' := [.inl (M.1 402 i j.toNat)]) (M' := M) rfl (show 0 ≤ j ∧ j < 49 from ⟨by omega, by omega⟩) ?_
      exact Wp.ret rfl (⟨rfl, by unfold atN; (repeat' split) <;> first | rfl | (exfalso; omega)⟩)
    ·
      refine Wp.path (k := 4) [1] (C := [49 ≤ j]) (pc' := 16) (ls' := [some (.inr (.inr (402, i))), some (.inl j)]) (st' := []) (M' := M) rfl c_2 ?_
      refine Wp.path (k := 1) [] (C := []) (pc' := 17) (ls' := [some (.inr (.inr (402, i))), some (.inl j)]) (st' := [.inl 0]) (M' := M) rfl trivial ?_
      exact Wp.ret rfl (⟨rfl, by unfold atN; (repeat' split) <;> first | rfl | (exfalso; omega)⟩)
theorem put_402 {i : Nat} {j v : Int} {M : Mm}  : Ev 0 938 [.inr (.inr (402, i)), .inl j, .inl v] M (fun w M' => M' = setA M 402 i (putN 49 (M.1 402 i) j v) ∧ w = none) := by
  show Wp 0 938 0 [some (.inr (.inr (402, i))), some (.inl j), some (.inl v)] [] M _
  rcases Int.lt_or_le (j) (0) with c_1 | c_1
  ·
    refine Wp.path (k := 2) [1] (C := [j < 0]) (pc' := 14) (ls' := [some (.inr (.inr (402, i))), some (.inl j), some (.inl v)]) (st' := []) (M' := M) rfl c_1 ?_
    exact Wp.ret rfl (⟨putN_out (by omega), rfl⟩)
  ·
    refine Wp.path (k := 2) [0] (C := [0 ≤ j]) (pc' := 4) (ls' := [some (.inr (.inr (402, i))), some (.inl j), some (.inl v)]) (st' := []) (M' := M) rfl c_1 ?_
    rcases Int.lt_or_le (j) (49) with c_2 | c_2
    ·
      refine Wp.path (k := 4) [0] (C := [j < 49]) (pc' := 10) (ls' := [some (.inr (.inr (402, i))), some (.inl j), some (.inl v)]) (st' := []) (M' := M) rfl c_2 ?_
      refine Wp.path (k := 4) [] (C := [0 ≤ j ∧ j < 49]) (pc' := 14) (ls' := [some (.inr (.inr (402, i))), some (.inl j), some (.inl v)]) (st' := []) (M' := setI M 402 i j.toNat v) rfl (show 0 ≤ j ∧ j < 49 from ⟨by omega, by omega⟩) ?_
      exact Wp.ret rfl (⟨putN_in (by omega) (by omega), rfl⟩)
    ·
      refine Wp.path (k := 4) [1] (C := [49 ≤ j]) (pc' := 14) (ls' := [some (.inr (.inr (402, i))), some (.inl j), some (.inl v)]) (st' := []) (M' := M) rfl c_2 ?_
      exact Wp.ret rfl (⟨putN_out (by omega), rfl⟩)
theorem at_404 {i : Nat} {j : Int} {M : Mm}  : Ev 0 937 [.inr (.inr (404, i)), .inl j] M (fun v M' => M' = M ∧ v = some (.inl (atN 288 (M.1 404 i) j))) := by
  show Wp 0 937 0 [some (.inr (.inr (404, i))), some (.inl j)] [] M _
  rcases Int.lt_or_le (j) (0) with c_1 | c_1
  ·
    refine Wp.path (k := 2) [1] (C := [j < 0]) (pc' := 16) (ls' := [some (.inr (.inr (404, i))), some (.inl j)]) (st' := []) (M' := M) rfl c_1 ?_
    refine Wp.path (k := 1) [] (C := []) (pc' := 17) (ls' := [some (.inr (.inr (404, i))), some (.inl j)]) (st' := [.inl 0]) (M' := M) rfl trivial ?_
    exact Wp.ret rfl (⟨rfl, by unfold atN; (repeat' split) <;> first | rfl | (exfalso; omega)⟩)
  ·
    refine Wp.path (k := 2) [0] (C := [0 ≤ j]) (pc' := 4) (ls' := [some (.inr (.inr (404, i))), some (.inl j)]) (st' := []) (M' := M) rfl c_1 ?_
    rcases Int.lt_or_le (j) (288) with c_2 | c_2
    ·
      refine Wp.path (k := 4) [0] (C := [j < 288]) (pc' := 10) (ls' := [some (.inr (.inr (404, i))), some (.inl j)]) (st' := []) (M' := M) rfl c_2 ?_
      refine Wp.path (k := 4) [] (C := [0 ≤ j ∧ j < 288]) (pc' := 17) (ls' := [some (.inr (.inr (404, i))), some (.inl j)]) (st' := [.inl (M.1 404 i j.toNat)]) (M' := M) rfl (show 0 ≤ j ∧ j < 288 from ⟨by omega, by omega⟩) ?_
      exact Wp.ret rfl (⟨rfl, by unfold atN; (repeat' split) <;> first | rfl | (exfalso; omega)⟩)
    ·
      refine Wp.path (k := 4) [1] (C := [288 ≤ j]) (pc' := 16) (ls' := [some (.inr (.inr (404, i))), some (.inl j)]) (st' := []) (M' := M) rfl c_2 ?_
      refine Wp.path (k := 1) [] (C := []) (pc' := 17) (ls' := [some (.inr (.inr (404, i))), some (.inl j)]) (st' := [.inl 0]) (M' := M) rfl trivial ?_
      exact Wp.ret rfl (⟨rfl, by unfold atN; (repeat' split) <;> first | rfl | (exfalso; omega)⟩)
theorem put_404 {i : Nat} {j v : Int} {M : Mm}  : Ev 0 938 [.inr (.inr (404, i)), .inl j, .inl v] M (fun w M' => M' = setA M 404 i (putN 288 (M.1 404 i) j v) ∧ w = none) := by
  show Wp 0 938 0 [some (.inr (.inr (404, i))), some (.inl j), some (.inl v)] [] M _
  rcases Int.lt_or_le (j) (0) with c_1 | c_1
  ·
    refine Wp.path (k := 2) [1] (C := [j < 0]) (pc' := 14) (ls' := [some (.inr (.inr (404, i))), some (.inl j), some (.inl v)]) (st' := []) (M' := M) rfl c_1 ?_
    exact Wp.ret rfl (⟨putN_out (by omega), rfl⟩)
  ·
    refine Wp.path (k := 2) [0] (C := [0 ≤ j]) (pc' := 4) (ls' := [some (.inr (.inr (404, i))), some (.inl j), some (.inl v)]) (st' := []) (M' := M) rfl c_1 ?_
    rcases Int.lt_or_le (j) (288) with c_2 | c_2
    ·
      refine Wp.path (k := 4) [0] (C := [j < 288]) (pc' := 10) (ls' := [some (.inr (.inr (404, i))), some (.inl j), some (.inl v)]) (st' := []) (M' := M) rfl c_2 ?_
      refine Wp.path (k := 4) [] (C := [0 ≤ j ∧ j < 288]) (pc' := 14) (ls' := [some (.inr (.inr (404, i))), some (.inl j), some (.inl v)]) (st' := []) (M' := setI M 404 i j.toNat v) rfl (show 0 ≤ j ∧ j < 288 from ⟨by omega, by omega⟩) ?_
      exact Wp.ret rfl (⟨putN_in (by omega) (by omega), rfl⟩)
    ·
      refine Wp.path (k := 4) [1] (C := [288 ≤ j]) (pc' := 14) (ls' := [some (.inr (.inr (404, i))), some (.inl j), some (.inl v)]) (st' := []) (M' := M) rfl c_2 ?_
      exact Wp.ret rfl (⟨putN_out (by omega), rfl⟩)
theorem at_405 {i : Nat} {j : Int} {M : Mm}  : Ev 0 937 [.inr (.inr (405, i)), .inl j] M (fun v M' => M' = M ∧ v = some (.inl (atN 288 (M.1 405 i) j))) := by
  show Wp 0 937 0 [some (.inr (.inr (405, i))), some (.inl j)] [] M _
  rcases Int.lt_or_le (j) (0) with c_1 | c_1
  ·
    refine Wp.path (k := 2) [1] (C := [j < 0]) (pc' := 16) (ls' := [some (.inr (.inr (405, i))), some (.inl j)]) (st' := []) (M' := M) rfl c_1 ?_
    refine Wp.path (k := 1) [] (C := []) (pc' := 17) (ls' := [some (.inr (.inr (405, i))), some (.inl j)]) (st' := [.inl 0]) (M' := M) rfl trivial ?_
    exact Wp.ret rfl (⟨rfl, by unfold atN; (repeat' split) <;> first | rfl | (exfalso; omega)⟩)
  ·
    refine Wp.path (k := 2) [0] (C := [0 ≤ j]) (pc' := 4) (ls' := [some (.inr (.inr (405, i))), some (.inl j)]) (st' := []) (M' := M) rfl c_1 ?_
    rcases Int.lt_or_le (j) (288) with c_2 | c_2
    ·
      refine Wp.path (k := 4) [0] (C := [j < 288]) (pc' := 10) (ls' := [some (.inr (.inr (405, i))), some (.inl j)]) (st' := []) (M' := M) rfl c_2 ?_
      refine Wp.path (k := 4) [] (C := [0 ≤ j ∧ j < 288]) (pc' := 17) (ls' := [some (.inr (.inr (405, i))), some (.inl j)]) (st' := [.inl (M.1 405 i j.toNat)]) (M' := M) rfl (show 0 ≤ j ∧ j < 288 from ⟨by omega, by omega⟩) ?_
      exact Wp.ret rfl (⟨rfl, by unfold atN; (repeat' split) <;> first | rfl | (exfalso; omega)⟩)
    ·
      refine Wp.path (k := 4) [1] (C := [288 ≤ j]) (pc' := 16) (ls' := [some (.inr (.inr (405, i))), some (.inl j)]) (st' := []) (M' := M) rfl c_2 ?_
      refine Wp.path (k := 1) [] (C := []) (pc' := 17) (ls' := [some (.inr (.inr (405, i))), some (.inl j)]) (st' := [.inl 0]) (M' := M) rfl trivial ?_
      exact Wp.ret rfl (⟨rfl, by unfold atN; (repeat' split) <;> first | rfl | (exfalso; omega)⟩)
theorem put_405 {i : Nat} {j v : Int} {M : Mm}  : Ev 0 938 [.inr (.inr (405, i)), .inl j, .inl v] M (fun w M' => M' = setA M 405 i (putN 288 (M.1 405 i) j v) ∧ w = none) := by
  show Wp 0 938 0 [some (.inr (.inr (405, i))), some (.inl j), some (.inl v)] [] M _
  rcases Int.lt_or_le (j) (0) with c_1 | c_1
  ·
    refine Wp.path (k := 2) [1] (C := [j < 0]) (pc' := 14) (ls' := [some (.inr (.inr (405, i))), some (.inl j), some (.inl v)]) (st' := []) (M' := M) rfl c_1 ?_
    exact Wp.ret rfl (⟨putN_out (by omega), rfl⟩)
  ·
    refine Wp.path (k := 2) [0] (C := [0 ≤ j]) (pc' := 4) (ls' := [some (.inr (.inr (405, i))), some (.inl j), some (.inl v)]) (st' := []) (M' := M) rfl c_1 ?_
    rcases Int.lt_or_le (j) (288) with c_2 | c_2
    ·
      refine Wp.path (k := 4) [0] (C := [j < 288]) (pc' := 10) (ls' := [some (.inr (.inr (405, i))), some (.inl j), some (.inl v)]) (st' := []) (M' := M) rfl c_2 ?_
      refine Wp.path (k := 4) [] (C := [0 ≤ j ∧ j < 288]) (pc' := 14) (ls' := [some (.inr (.inr (405, i))), some (.inl j), some (.inl v)]) (st' := []) (M' := setI M 405 i j.toNat v) rfl (show 0 ≤ j ∧ j < 288 from ⟨by omega, by omega⟩) ?_
      exact Wp.ret rfl (⟨putN_in (by omega) (by omega), rfl⟩)
    ·
      refine Wp.path (k := 4) [1] (C := [288 ≤ j]) (pc' := 14) (ls' := [some (.inr (.inr (405, i))), some (.inl j), some (.inl v)]) (st' := []) (M' := M) rfl c_2 ?_
      exact Wp.ret rfl (⟨putN_out (by omega), rfl⟩)
theorem at_406 {i : Nat} {j : Int} {M : Mm}  : Ev 0 937 [.inr (.inr (406, i)), .inl j] M (fun v M' => M' = M ∧ v = some (.inl (atN 288 (M.1 406 i) j))) := by
  show Wp 0 937 0 [some (.inr (.inr (406, i))), some (.inl j)] [] M _
  rcases Int.lt_or_le (j) (0) with c_1 | c_1
  ·
    refine Wp.path (k := 2) [1] (C := [j < 0]) (pc' := 16) (ls' := [some (.inr (.inr (406, i))), some (.inl j)]) (st' := []) (M' := M) rfl c_1 ?_
    refine Wp.path (k := 1) [] (C := []) (pc' := 17) (ls' := [some (.inr (.inr (406, i))), some (.inl j)]) (st' := [.inl 0]) (M' := M) rfl trivial ?_
    exact Wp.ret rfl (⟨rfl, by unfold atN; (repeat' split) <;> first | rfl | (exfalso; omega)⟩)
  ·
    refine Wp.path (k := 2) [0] (C := [0 ≤ j]) (pc' := 4) (ls' := [some (.inr (.inr (406, i))), some (.inl j)]) (st' := []) (M' := M) rfl c_1 ?_
    rcases Int.lt_or_le (j) (288) with c_2 | c_2
    ·
      refine Wp.path (k := 4) [0] (C := [j < 288]) (pc' := 10) (ls' := [some (.inr (.inr (406, i))), some (.inl j)]) (st' := []) (M' := M) rfl c_2 ?_
      refine Wp.path (k := 4) [] (C := [0 ≤ j ∧ j < 288]) (pc' := 17) (ls' := [some (.inr (.inr (406, i))), some (.inl j)]) (st' := [.inl (M.1 406 i j.toNat)]) (M' := M) rfl (show 0 ≤ j ∧ j < 288 from ⟨by omega, by omega⟩) ?_
      exact Wp.ret rfl (⟨rfl, by unfold atN; (repeat' split) <;> first | rfl | (exfalso; omega)⟩)
    ·
      refine Wp.path (k := 4) [1] (C := [288 ≤ j]) (pc' := 16) (ls' := [some (.inr (.inr (406, i))), some (.inl j)]) (st' := []) (M' := M) rfl c_2 ?_
      refine Wp.path (k := 1) [] (C := []) (pc' := 17) (ls' := [some (.inr (.inr (406, i))), some (.inl j)]) (st' := [.inl 0]) (M' := M) rfl trivial ?_
      exact Wp.ret rfl (⟨rfl, by unfold atN; (repeat' split) <;> first | rfl | (exfalso; omega)⟩)
theorem put_406 {i : Nat} {j v : Int} {M : Mm}  : Ev 0 938 [.inr (.inr (406, i)), .inl j, .inl v] M (fun w M' => M' = setA M 406 i (putN 288 (M.1 406 i) j v) ∧ w = none) := by
  show Wp 0 938 0 [some (.inr (.inr (406, i))), some (.inl j), some (.inl v)] [] M _
  rcases Int.lt_or_le (j) (0) with c_1 | c_1
  ·
    refine Wp.path (k := 2) [1] (C := [j < 0]) (pc' := 14) (ls' := [some (.inr (.inr (406, i))), some (.inl j), some (.inl v)]) (st' := []) (M' := M) rfl c_1 ?_
    exact Wp.ret rfl (⟨putN_out (by omega), rfl⟩)
  ·
    refine Wp.path (k := 2) [0] (C := [0 ≤ j]) (pc' := 4) (ls' := [some (.inr (.inr (406, i))), some (.inl j), some (.inl v)]) (st' := []) (M' := M) rfl c_1 ?_
    rcases Int.lt_or_le (j) (288) with c_2 | c_2
    ·
      refine Wp.path (k := 4) [0] (C := [j < 288]) (pc' := 10) (ls' := [some (.inr (.inr (406, i))), some (.inl j), some (.inl v)]) (st' := []) (M' := M) rfl c_2 ?_
      refine Wp.path (k := 4) [] (C := [0 ≤ j ∧ j < 288]) (pc' := 14) (ls' := [some (.inr (.inr (406, i))), some (.inl j), some (.inl v)]) (st' := []) (M' := setI M 406 i j.toNat v) rfl (show 0 ≤ j ∧ j < 288 from ⟨by omega, by omega⟩) ?_
      exact Wp.ret rfl (⟨putN_in (by omega) (by omega), rfl⟩)
    ·
      refine Wp.path (k := 4) [1] (C := [288 ≤ j]) (pc' := 14) (ls' := [some (.inr (.inr (406, i))), some (.inl j), some (.inl v)]) (st' := []) (M' := M) rfl c_2 ?_
      exact Wp.ret rfl (⟨putN_out (by omega), rfl⟩)
theorem at_407 {i : Nat} {j : Int} {M : Mm}  : Ev 0 937 [.inr (.inr (407, i)), .inl j] M (fun v M' => M' = M ∧ v = some (.inl (atN 72 (M.1 407 i) j))) := by
  show Wp 0 937 0 [some (.inr (.inr (407, i))), some (.inl j)] [] M _
  rcases Int.lt_or_le (j) (0) with c_1 | c_1
  ·
    refine Wp.path (k := 2) [1] (C := [j < 0]) (pc' := 16) (ls' := [some (.inr (.inr (407, i))), some (.inl j)]) (st' := []) (M' := M) rfl c_1 ?_
    refine Wp.path (k := 1) [] (C := []) (pc' := 17) (ls' := [some (.inr (.inr (407, i))), some (.inl j)]) (st' := [.inl 0]) (M' := M) rfl trivial ?_
    exact Wp.ret rfl (⟨rfl, by unfold atN; (repeat' split) <;> first | rfl | (exfalso; omega)⟩)
  ·
    refine Wp.path (k := 2) [0] (C := [0 ≤ j]) (pc' := 4) (ls' := [some (.inr (.inr (407, i))), some (.inl j)]) (st' := []) (M' := M) rfl c_1 ?_
    rcases Int.lt_or_le (j) (72) with c_2 | c_2
    ·
      refine Wp.path (k := 4) [0] (C := [j < 72]) (pc' := 10) (ls' := [some (.inr (.inr (407, i))), some (.inl j)]) (st' := []) (M' := M) rfl c_2 ?_
      refine Wp.path (k := 4) [] (C := [0 ≤ j ∧ j < 72]) (pc' := 17) (ls' := [some (.inr (.inr (407, i))), some (.inl j)]) (st' := [.inl (M.1 407 i j.toNat)]) (M' := M) rfl (show 0 ≤ j ∧ j < 72 from ⟨by omega, by omega⟩) ?_
      exact Wp.ret rfl (⟨rfl, by unfold atN; (repeat' split) <;> first | rfl | (exfalso; omega)⟩)
    ·
      refine Wp.path (k := 4) [1] (C := [72 ≤ j]) (pc' := 16) (ls' := [some (.inr (.inr (407, i))), some (.inl j)]) (st' := []) (M' := M) rfl c_2 ?_
      refine Wp.path (k := 1) [] (C := []) (pc' := 17) (ls' := [some (.inr (.inr (407, i))), some (.inl j)]) (st' := [.inl 0]) (M' := M) rfl trivial ?_
      exact Wp.ret rfl (⟨rfl, by unfold atN; (repeat' split) <;> first | rfl | (exfalso; omega)⟩)
theorem put_407 {i : Nat} {j v : Int} {M : Mm}  : Ev 0 938 [.inr (.inr (407, i)), .inl j, .inl v] M (fun w M' => M' = setA M 407 i (putN 72 (M.1 407 i) j v) ∧ w = none) := by
  show Wp 0 938 0 [some (.inr (.inr (407, i))), some (.inl j), some (.inl v)] [] M _
  rcases Int.lt_or_le (j) (0) with c_1 | c_1
  ·
    refine Wp.path (k := 2) [1] (C := [j < 0]) (pc' := 14) (ls' := [some (.inr (.inr (407, i))), some (.inl j), some (.inl v)]) (st' := []) (M' := M) rfl c_1 ?_
    exact Wp.ret rfl (⟨putN_out (by omega), rfl⟩)
  ·
    refine Wp.path (k := 2) [0] (C := [0 ≤ j]) (pc' := 4) (ls' := [some (.inr (.inr (407, i))), some (.inl j), some (.inl v)]) (st' := []) (M' := M) rfl c_1 ?_
    rcases Int.lt_or_le (j) (72) with c_2 | c_2
    ·
      refine Wp.path (k := 4) [0] (C := [j < 72]) (pc' := 10) (ls' := [some (.inr (.inr (407, i))), some (.inl j), some (.inl v)]) (st' := []) (M' := M) rfl c_2 ?_
      refine Wp.path (k := 4) [] (C := [0 ≤ j ∧ j < 72]) (pc' := 14) (ls' := [some (.inr (.inr (407, i))), some (.inl j), some (.inl v)]) (st' := []) (M' := setI M 407 i j.toNat v) rfl (show 0 ≤ j ∧ j < 72 from ⟨by omega, by omega⟩) ?_
      exact Wp.ret rfl (⟨putN_in (by omega) (by omega), rfl⟩)
    ·
      refine Wp.path (k := 4) [1] (C := [72 ≤ j]) (pc' := 14) (ls' := [some (.inr (.inr (407, i))), some (.inl j), some (.inl v)]) (st' := []) (M' := M) rfl c_2 ?_
      exact Wp.ret rfl (⟨putN_out (by omega), rfl⟩)
theorem at_408 {i : Nat} {j : Int} {M : Mm}  : Ev 0 937 [.inr (.inr (408, i)), .inl j] M (fun v M' => M' = M ∧ v = some (.inl (atN 72 (M.1 408 i) j))) := by
  show Wp 0 937 0 [some (.inr (.inr (408, i))), some (.inl j)] [] M _
  rcases Int.lt_or_le (j) (0) with c_1 | c_1
  ·
    refine Wp.path (k := 2) [1] (C := [j < 0]) (pc' := 16) (ls' := [some (.inr (.inr (408, i))), some (.inl j)]) (st' := []) (M' := M) rfl c_1 ?_
    refine Wp.path (k := 1) [] (C := []) (pc' := 17) (ls' := [some (.inr (.inr (408, i))), some (.inl j)]) (st' := [.inl 0]) (M' := M) rfl trivial ?_
    exact Wp.ret rfl (⟨rfl, by unfold atN; (repeat' split) <;> first | rfl | (exfalso; omega)⟩)
  ·
    refine Wp.path (k := 2) [0] (C := [0 ≤ j]) (pc' := 4) (ls' := [some (.inr (.inr (408, i))), some (.inl j)]) (st' := []) (M' := M) rfl c_1 ?_
    rcases Int.lt_or_le (j) (72) with c_2 | c_2
    ·
      refine Wp.path (k := 4) [0] (C := [j < 72]) (pc' := 10) (ls' := [some (.inr (.inr (408, i))), some (.inl j)]) (st' := []) (M' := M) rfl c_2 ?_
      refine Wp.path (k := 4) [] (C := [0 ≤ j ∧ j < 72]) (pc' := 17) (ls' := [some (.inr (.inr (408, i))), some (.inl j)]) (st' := [.inl (M.1 408 i j.toNat)]) (M' := M) rfl (show 0 ≤ j ∧ j < 72 from ⟨by omega, by omega⟩) ?_
      exact Wp.ret rfl (⟨rfl, by unfold atN; (repeat' split) <;> first | rfl | (exfalso; omega)⟩)
    ·
      refine Wp.path (k := 4) [1] (C := [72 ≤ j]) (pc' := 16) (ls' := [some (.inr (.inr (408, i))), some (.inl j)]) (st' := []) (M' := M) rfl c_2 ?_
      refine Wp.path (k := 1) [] (C := []) (pc' := 17) (ls' := [some (.inr (.inr (408, i))), some (.inl j)]) (st' := [.inl 0]) (M' := M) rfl trivial ?_
      exact Wp.ret rfl (⟨rfl, by unfold atN; (repeat' split) <;> first | rfl | (exfalso; omega)⟩)
theorem put_408 {i : Nat} {j v : Int} {M : Mm}  : Ev 0 938 [.inr (.inr (408, i)), .inl j, .inl v] M (fun w M' => M' = setA M 408 i (putN 72 (M.1 408 i) j v) ∧ w = none) := by
  show Wp 0 938 0 [some (.inr (.inr (408, i))), some (.inl j), some (.inl v)] [] M _
  rcases Int.lt_or_le (j) (0) with c_1 | c_1
  ·
    refine Wp.path (k := 2) [1] (C := [j < 0]) (pc' := 14) (ls' := [some (.inr (.inr (408, i))), some (.inl j), some (.inl v)]) (st' := []) (M' := M) rfl c_1 ?_
    exact Wp.ret rfl (⟨putN_out (by omega), rfl⟩)
  ·
    refine Wp.path (k := 2) [0] (C := [0 ≤ j]) (pc' := 4) (ls' := [some (.inr (.inr (408, i))), some (.inl j), some (.inl v)]) (st' := []) (M' := M) rfl c_1 ?_
    rcases Int.lt_or_le (j) (72) with c_2 | c_2
    ·
      refine Wp.path (k := 4) [0] (C := [j < 72]) (pc' := 10) (ls' := [some (.inr (.inr (408, i))), some (.inl j), some (.inl v)]) (st' := []) (M' := M) rfl c_2 ?_
      refine Wp.path (k := 4) [] (C := [0 ≤ j ∧ j < 72]) (pc' := 14) (ls' := [some (.inr (.inr (408, i))), some (.inl j), some (.inl v)]) (st' := []) (M' := setI M 408 i j.toNat v) rfl (show 0 ≤ j ∧ j < 72 from ⟨by omega, by omega⟩) ?_
      exact Wp.ret rfl (⟨putN_in (by omega) (by omega), rfl⟩)
    ·
      refine Wp.path (k := 4) [1] (C := [72 ≤ j]) (pc' := 14) (ls' := [some (.inr (.inr (408, i))), some (.inl j), some (.inl v)]) (st' := []) (M' := M) rfl c_2 ?_
      exact Wp.ret rfl (⟨putN_out (by omega), rfl⟩)
theorem at_500 {i : Nat} {j : Int} {M : Mm}  : Ev 0 937 [.inr (.inr (500, i)), .inl j] M (fun v M' => M' = M ∧ v = some (.inl (atN 12 (M.1 500 i) j))) := by
  show Wp 0 937 0 [some (.inr (.inr (500, i))), some (.inl j)] [] M _
  rcases Int.lt_or_le (j) (0) with c_1 | c_1
  ·
    refine Wp.path (k := 2) [1] (C := [j < 0]) (pc' := 16) (ls' := [some (.inr (.inr (500, i))), some (.inl j)]) (st' := []) (M' := M) rfl c_1 ?_
    refine Wp.path (k := 1) [] (C := []) (pc' := 17) (ls' := [some (.inr (.inr (500, i))), some (.inl j)]) (st' := [.inl 0]) (M' := M) rfl trivial ?_
    exact Wp.ret rfl (⟨rfl, by unfold atN; (repeat' split) <;> first | rfl | (exfalso; omega)⟩)
  ·
    refine Wp.path (k := 2) [0] (C := [0 ≤ j]) (pc' := 4) (ls' := [some (.inr (.inr (500, i))), some (.inl j)]) (st' := []) (M' := M) rfl c_1 ?_
    rcases Int.lt_or_le (j) (12) with c_2 | c_2
    ·
      refine Wp.path (k := 4) [0] (C := [j < 12]) (pc' := 10) (ls' := [some (.inr (.inr (500, i))), some (.inl j)]) (st' := []) (M' := M) rfl c_2 ?_
      refine Wp.path (k := 4) [] (C := [0 ≤ j ∧ j < 12]) (pc' := 17) (ls' := [some (.inr (.inr (500, i))), some (.inl j)]) (st' := [.inl (M.1 500 i j.toNat)]) (M' := M) rfl (show 0 ≤ j ∧ j < 12 from ⟨by omega, by omega⟩) ?_
      exact Wp.ret rfl (⟨rfl, by unfold atN; (repeat' split) <;> first | rfl | (exfalso; omega)⟩)
    ·
      refine Wp.path (k := 4) [1] (C := [12 ≤ j]) (pc' := 16) (ls' := [some (.inr (.inr (500, i))), some (.inl j)]) (st' := []) (M' := M) rfl c_2 ?_
      refine Wp.path (k := 1) [] (C := []) (pc' := 17) (ls' := [some (.inr (.inr (500, i))), some (.inl j)]) (st' := [.inl 0]) (M' := M) rfl trivial ?_
      exact Wp.ret rfl (⟨rfl, by unfold atN; (repeat' split) <;> first | rfl | (exfalso; omega)⟩)
theorem put_500 {i : Nat} {j v : Int} {M : Mm}  : Ev 0 938 [.inr (.inr (500, i)), .inl j, .inl v] M (fun w M' => M' = setA M 500 i (putN 12 (M.1 500 i) j v) ∧ w = none) := by
  show Wp 0 938 0 [some (.inr (.inr (500, i))), some (.inl j), some (.inl v)] [] M _
  rcases Int.lt_or_le (j) (0) with c_1 | c_1
  ·
    refine Wp.path (k := 2) [1] (C := [j < 0]) (pc' := 14) (ls' := [some (.inr (.inr (500, i))), some (.inl j), some (.inl v)]) (st' := []) (M' := M) rfl c_1 ?_
    exact Wp.ret rfl (⟨putN_out (by omega), rfl⟩)
  ·
    refine Wp.path (k := 2) [0] (C := [0 ≤ j]) (pc' := 4) (ls' := [some (.inr (.inr (500, i))), some (.inl j), some (.inl v)]) (st' := []) (M' := M) rfl c_1 ?_
    rcases Int.lt_or_le (j) (12) with c_2 | c_2
    ·
      refine Wp.path (k := 4) [0] (C := [j < 12]) (pc' := 10) (ls' := [some (.inr (.inr (500, i))), some (.inl j), some (.inl v)]) (st' := []) (M' := M) rfl c_2 ?_
      refine Wp.path (k := 4) [] (C := [0 ≤ j ∧ j < 12]) (pc' := 14) (ls' := [some (.inr (.inr (500, i))), some (.inl j), some (.inl v)]) (st' := []) (M' := setI M 500 i j.toNat v) rfl (show 0 ≤ j ∧ j < 12 from ⟨by omega, by omega⟩) ?_
      exact Wp.ret rfl (⟨putN_in (by omega) (by omega), rfl⟩)
    ·
      refine Wp.path (k := 4) [1] (C := [12 ≤ j]) (pc' := 14) (ls' := [some (.inr (.inr (500, i))), some (.inl j), some (.inl v)]) (st' := []) (M' := M) rfl c_2 ?_
      exact Wp.ret rfl (⟨putN_out (by omega), rfl⟩)
theorem at_501 {i : Nat} {j : Int} {M : Mm}  : Ev 0 937 [.inr (.inr (501, i)), .inl j] M (fun v M' => M' = M ∧ v = some (.inl (atN 12 (M.1 501 i) j))) := by
  show Wp 0 937 0 [some (.inr (.inr (501, i))), some (.inl j)] [] M _
  rcases Int.lt_or_le (j) (0) with c_1 | c_1
  ·
    refine Wp.path (k := 2) [1] (C := [j < 0]) (pc' := 16) (ls' := [some (.inr (.inr (501, i))), some (.inl j)]) (st' := []) (M' := M) rfl c_1 ?_
    refine Wp.path (k := 1) [] (C := []) (pc' := 17) (ls' := [some (.inr (.inr (501, i))), some (.inl j)]) (st' := [.inl 0]) (M' := M) rfl trivial ?_
    exact Wp.ret rfl (⟨rfl, by unfold atN; (repeat' split) <;> first | rfl | (exfalso; omega)⟩)
  ·
    refine Wp.path (k := 2) [0] (C := [0 ≤ j]) (pc' := 4) (ls' := [some (.inr (.inr (501, i))), some (.inl j)]) (st' := []) (M' := M) rfl c_1 ?_
    rcases Int.lt_or_le (j) (12) with c_2 | c_2
    ·
      refine Wp.path (k := 4) [0] (C := [j < 12]) (pc' := 10) (ls' := [some (.inr (.inr (501, i))), some (.inl j)]) (st' := []) (M' := M) rfl c_2 ?_
      refine Wp.path (k := 4) [] (C := [0 ≤ j ∧ j < 12]) (pc' := 17) (ls' := [some (.inr (.inr (501, i))), some (.inl j)]) (st' := [.inl (M.1 501 i j.toNat)]) (M' := M) rfl (show 0 ≤ j ∧ j < 12 from ⟨by omega, by omega⟩) ?_
      exact Wp.ret rfl (⟨rfl, by unfold atN; (repeat' split) <;> first | rfl | (exfalso; omega)⟩)
    ·
      refine Wp.path (k := 4) [1] (C := [12 ≤ j]) (pc' := 16) (ls' := [some (.inr (.inr (501, i))), some (.inl j)]) (st' := []) (M' := M) rfl c_2 ?_
      refine Wp.path (k := 1) [] (C := []) (pc' := 17) (ls' := [some (.inr (.inr (501, i))), some (.inl j)]) (st' := [.inl 0]) (M' := M) rfl trivial ?_
      exact Wp.ret rfl (⟨rfl, by unfold atN; (repeat' split) <;> first | rfl | (exfalso; omega)⟩)
theorem put_501 {i : Nat} {j v : Int} {M : Mm}  : Ev 0 938 [.inr (.inr (501, i)), .inl j, .inl v] M (fun w M' => M' = setA M 501 i (putN 12 (M.1 501 i) j v) ∧ w = none) := by
  show Wp 0 938 0 [some (.inr (.inr (501, i))), some (.inl j), some (.inl v)] [] M _
  rcases Int.lt_or_le (j) (0) with c_1 | c_1
  ·
    refine Wp.path (k := 2) [1] (C := [j < 0]) (pc' := 14) (ls' := [some (.inr (.inr (501, i))), some (.inl j), some (.inl v)]) (st' := []) (M' := M) rfl c_1 ?_
    exact Wp.ret rfl (⟨putN_out (by omega), rfl⟩)
  ·
    refine Wp.path (k := 2) [0] (C := [0 ≤ j]) (pc' := 4) (ls' := [some (.inr (.inr (501, i))), some (.inl j), some (.inl v)]) (st' := []) (M' := M) rfl c_1 ?_
    rcases Int.lt_or_le (j) (12) with c_2 | c_2
    ·
      refine Wp.path (k := 4) [0] (C := [j < 12]) (pc' := 10) (ls' := [some (.inr (.inr (501, i))), some (.inl j), some (.inl v)]) (st' := []) (M' := M) rfl c_2 ?_
      refine Wp.path (k := 4) [] (C := [0 ≤ j ∧ j < 12]) (pc' := 14) (ls' := [some (.inr (.inr (501, i))), some (.inl j), some (.inl v)]) (st' := []) (M' := setI M 501 i j.toNat v) rfl (show 0 ≤ j ∧ j < 12 from ⟨by omega, by omega⟩) ?_
      exact Wp.ret rfl (⟨putN_in (by omega) (by omega), rfl⟩)
    ·
      refine Wp.path (k := 4) [1] (C := [12 ≤ j]) (pc' := 14) (ls' := [some (.inr (.inr (501, i))), some (.inl j), some (.inl v)]) (st' := []) (M' := M) rfl c_2 ?_
      exact Wp.ret rfl (⟨putN_out (by omega), rfl⟩)
theorem at_607 {i : Nat} {j : Int} {M : Mm}  : Ev 0 937 [.inr (.inr (607, i)), .inl j] M (fun v M' => M' = M ∧ v = some (.inl (atN 26 (M.1 607 i) j))) := by
  show Wp 0 937 0 [some (.inr (.inr (607, i))), some (.inl j)] [] M _
  rcases Int.lt_or_le (j) (0) with c_1 | c_1
  ·
    refine Wp.path (k := 2) [1] (C := [j < 0]) (pc' := 16) (ls' := [some (.inr (.inr (607, i))), some (.inl j)]) (st' := []) (M' := M) rfl c_1 ?_
    refine Wp.path (k := 1) [] (C := []) (pc' := 17) (ls' := [some (.inr (.inr (607, i))), some (.inl j)]) (st' := [.inl 0]) (M' := M) rfl trivial ?_
    exact Wp.ret rfl (⟨rfl, by unfold atN; (repeat' split) <;> first | rfl | (exfalso; omega)⟩)
  ·
    refine Wp.path (k := 2) [0] (C := [0 ≤ j]) (pc' := 4) (ls' := [some (.inr (.inr (607, i))), some (.inl j)]) (st' := []) (M' := M) rfl c_1 ?_
    rcases Int.lt_or_le (j) (26) with c_2 | c_2
    ·
      refine Wp.path (k := 4) [0] (C := [j < 26]) (pc' := 10) (ls' := [some (.inr (.inr (607, i))), some (.inl j)]) (st' := []) (M' := M) rfl c_2 ?_
      refine Wp.path (k := 4) [] (C := [0 ≤ j ∧ j < 26]) (pc' := 17) (ls' := [some (.inr (.inr (607, i))), some (.inl j)]) (st' := [.inl (M.1 607 i j.toNat)]) (M' := M) rfl (show 0 ≤ j ∧ j < 26 from ⟨by omega, by omega⟩) ?_
      exact Wp.ret rfl (⟨rfl, by unfold atN; (repeat' split) <;> first | rfl | (exfalso; omega)⟩)
    ·
      refine Wp.path (k := 4) [1] (C := [26 ≤ j]) (pc' := 16) (ls' := [some (.inr (.inr (607, i))), some (.inl j)]) (st' := []) (M' := M) rfl c_2 ?_
      refine Wp.path (k := 1) [] (C := []) (pc' := 17) (ls' := [some (.inr (.inr (607, i))), some (.inl j)]) (st' := [.inl 0]) (M' := M) rfl trivial ?_
      exact Wp.ret rfl (⟨rfl, by unfold atN; (repeat' split) <;> first | rfl | (exfalso; omega)⟩)
theorem put_607 {i : Nat} {j v : Int} {M : Mm}  : Ev 0 938 [.inr (.inr (607, i)), .inl j, .inl v] M (fun w M' => M' = setA M 607 i (putN 26 (M.1 607 i) j v) ∧ w = none) := by
  show Wp 0 938 0 [some (.inr (.inr (607, i))), some (.inl j), some (.inl v)] [] M _
  rcases Int.lt_or_le (j) (0) with c_1 | c_1
  ·
    refine Wp.path (k := 2) [1] (C := [j < 0]) (pc' := 14) (ls' := [some (.inr (.inr (607, i))), some (.inl j), some (.inl v)]) (st' := []) (M' := M) rfl c_1 ?_
    exact Wp.ret rfl (⟨putN_out (by omega), rfl⟩)
  ·
    refine Wp.path (k := 2) [0] (C := [0 ≤ j]) (pc' := 4) (ls' := [some (.inr (.inr (607, i))), some (.inl j), some (.inl v)]) (st' := []) (M' := M) rfl c_1 ?_
    rcases Int.lt_or_le (j) (26) with c_2 | c_2
    ·
      refine Wp.path (k := 4) [0] (C := [j < 26]) (pc' := 10) (ls' := [some (.inr (.inr (607, i))), some (.inl j), some (.inl v)]) (st' := []) (M' := M) rfl c_2 ?_
      refine Wp.path (k := 4) [] (C := [0 ≤ j ∧ j < 26]) (pc' := 14) (ls' := [some (.inr (.inr (607, i))), some (.inl j), some (.inl v)]) (st' := []) (M' := setI M 607 i j.toNat v) rfl (show 0 ≤ j ∧ j < 26 from ⟨by omega, by omega⟩) ?_
      exact Wp.ret rfl (⟨putN_in (by omega) (by omega), rfl⟩)
    ·
      refine Wp.path (k := 4) [1] (C := [26 ≤ j]) (pc' := 14) (ls' := [some (.inr (.inr (607, i))), some (.inl j), some (.inl v)]) (st' := []) (M' := M) rfl c_2 ?_
      exact Wp.ret rfl (⟨putN_out (by omega), rfl⟩)
theorem at_608 {i : Nat} {j : Int} {M : Mm}  : Ev 0 937 [.inr (.inr (608, i)), .inl j] M (fun v M' => M' = M ∧ v = some (.inl (atN 144 (M.1 608 i) j))) := by
  show Wp 0 937 0 [some (.inr (.inr (608, i))), some (.inl j)] [] M _
  rcases Int.lt_or_le (j) (0) with c_1 | c_1
  ·
    refine Wp.path (k := 2) [1] (C := [j < 0]) (pc' := 16) (ls' := [some (.inr (.inr (608, i))), some (.inl j)]) (st' := []) (M' := M) rfl c_1 ?_
    refine Wp.path (k := 1) [] (C := []) (pc' := 17) (ls' := [some (.inr (.inr (608, i))), some (.inl j)]) (st' := [.inl 0]) (M' := M) rfl trivial ?_
    exact Wp.ret rfl (⟨rfl, by unfold atN; (repeat' split) <;> first | rfl | (exfalso; omega)⟩)
  ·
    refine Wp.path (k := 2) [0] (C := [0 ≤ j]) (pc' := 4) (ls' := [some (.inr (.inr (608, i))), some (.inl j)]) (st' := []) (M' := M) rfl c_1 ?_
    rcases Int.lt_or_le (j) (144) with c_2 | c_2
    ·
      refine Wp.path (k := 4) [0] (C := [j < 144]) (pc' := 10) (ls' := [some (.inr (.inr (608, i))), some (.inl j)]) (st' := []) (M' := M) rfl c_2 ?_
      refine Wp.path (k := 4) [] (C := [0 ≤ j ∧ j < 144]) (pc' := 17) (ls' := [some (.inr (.inr (608, i))), some (.inl j)]) (st' := [.inl (M.1 608 i j.toNat)]) (M' := M) rfl (show 0 ≤ j ∧ j < 144 from ⟨by omega, by omega⟩) ?_
      exact Wp.ret rfl (⟨rfl, by unfold atN; (repeat' split) <;> first | rfl | (exfalso; omega)⟩)
    ·
      refine Wp.path (k := 4) [1] (C := [144 ≤ j]) (pc' := 16) (ls' := [some (.inr (.inr (608, i))), some (.inl j)]) (st' := []) (M' := M) rfl c_2 ?_
      refine Wp.path (k := 1) [] (C := []) (pc' := 17) (ls' := [some (.inr (.inr (608, i))), some (.inl j)]) (st' := [.inl 0]) (M' := M) rfl trivial ?_
      exact Wp.ret rfl (⟨rfl, by unfold atN; (repeat' split) <;> first | rfl | (exfalso; omega)⟩)
theorem put_608 {i : Nat} {j v : Int} {M : Mm}  : Ev 0 938 [.inr (.inr (608, i)), .inl j, .inl v] M (fun w M' => M' = setA M 608 i (putN 144 (M.1 608 i) j v) ∧ w = none) := by
  show Wp 0 938 0 [some (.inr (.inr (608, i))), some (.inl j), some (.inl v)] [] M _
  rcases Int.lt_or_le (j) (0) with c_1 | c_1
  ·
    refine Wp.path (k := 2) [1] (C := [j < 0]) (pc' := 14) (ls' := [some (.inr (.inr (608, i))), some (.inl j), some (.inl v)]) (st' := []) (M' := M) rfl c_1 ?_
    exact Wp.ret rfl (⟨putN_out (by omega), rfl⟩)
  ·
    refine Wp.path (k := 2) [0] (C := [0 ≤ j]) (pc' := 4) (ls' := [some (.inr (.inr (608, i))), some (.inl j), some (.inl v)]) (st' := []) (M' := M) rfl c_1 ?_
    rcases Int.lt_or_le (j) (144) with c_2 | c_2
    ·
      refine Wp.path (k := 4) [0] (C := [j < 144]) (pc' := 10) (ls' := [some (.inr (.inr (608, i))), some (.inl j), some (.inl v)]) (st' := []) (M' := M) rfl c_2 ?_
      refine Wp.path (k := 4) [] (C := [0 ≤ j ∧ j < 144]) (pc' := 14) (ls' := [some (.inr (.inr (608, i))), some (.inl j), some (.inl v)]) (st' := []) (M' := setI M 608 i j.toNat v) rfl (show 0 ≤ j ∧ j < 144 from ⟨by omega, by omega⟩) ?_
      exact Wp.ret rfl (⟨putN_in (by omega) (by omega), rfl⟩)
    ·
      refine Wp.path (k := 4) [1] (C := [144 ≤ j]) (pc' := 14) (ls' := [some (.inr (.inr (608, i))), some (.inl j), some (.inl v)]) (st' := []) (M' := M) rfl c_2 ?_
      exact Wp.ret rfl (⟨putN_out (by omega), rfl⟩)
theorem at_609 {i : Nat} {j : Int} {M : Mm}  : Ev 0 937 [.inr (.inr (609, i)), .inl j] M (fun v M' => M' = M ∧ v = some (.inl (atN 144 (M.1 609 i) j))) := by
  show Wp 0 937 0 [some (.inr (.inr (609, i))), some (.inl j)] [] M _
  rcases Int.lt_or_le (j) (0) with c_1 | c_1
  ·
    refine Wp.path (k := 2) [1] (C := [j < 0]) (pc' := 16) (ls' := [some (.inr (.inr (609, i))), some (.inl j)]) (st' := []) (M' := M) rfl c_1 ?_
    refine Wp.path (k := 1) [] (C := []) (pc' := 17) (ls' := [some (.inr (.inr (609, i))), some (.inl j)]) (st' := [.inl 0]) (M' := M) rfl trivial ?_
    exact Wp.ret rfl (⟨rfl, by unfold atN; (repeat' split) <;> first | rfl | (exfalso; omega)⟩)
  ·
    refine Wp.path (k := 2) [0] (C := [0 ≤ j]) (pc' := 4) (ls' := [some (.inr (.inr (609, i))), some (.inl j)]) (st' := []) (M' := M) rfl c_1 ?_
    rcases Int.lt_or_le (j) (144) with c_2 | c_2
    ·
      refine Wp.path (k := 4) [0] (C := [j < 144]) (pc' := 10) (ls' := [some (.inr (.inr (609, i))), some (.inl j)]) (st' := []) (M' := M) rfl c_2 ?_
      refine Wp.path (k := 4) [] (C := [0 ≤ j ∧ j < 144]) (pc' := 17) (ls' := [some (.inr (.inr (609, i))), some (.inl j)]) (st' := [.inl (M.1 609 i j.toNat)]) (M' := M) rfl (show 0 ≤ j ∧ j < 144 from ⟨by omega, by omega⟩) ?_
      exact Wp.ret rfl (⟨rfl, by unfold atN; (repeat' split) <;> first | rfl | (exfalso; omega)⟩)
    ·
      refine Wp.path (k := 4) [1] (C := [144 ≤ j]) (pc' := 16) (ls' := [some (.inr (.inr (609, i))), some (.inl j)]) (st' := []) (M' := M) rfl c_2 ?_
      refine Wp.path (k := 1) [] (C := []) (pc' := 17) (ls' := [some (.inr (.inr (609, i))), some (.inl j)]) (st' := [.inl 0]) (M' := M) rfl trivial ?_
      exact Wp.ret rfl (⟨rfl, by unfold atN; (repeat' split) <;> first | rfl | (exfalso; omega)⟩)
theorem put_609 {i : Nat} {j v : Int} {M : Mm}  : Ev 0 938 [.inr (.inr (609, i)), .inl j, .inl v] M (fun w M' => M' = setA M 609 i (putN 144 (M.1 609 i) j v) ∧ w = none) := by
  show Wp 0 938 0 [some (.inr (.inr (609, i))), some (.inl j), some (.inl v)] [] M _
  rcases Int.lt_or_le (j) (0) with c_1 | c_1
  ·
    refine Wp.path (k := 2) [1] (C := [j < 0]) (pc' := 14) (ls' := [some (.inr (.inr (609, i))), some (.inl j), some (.inl v)]) (st' := []) (M' := M) rfl c_1 ?_
    exact Wp.ret rfl (⟨putN_out (by omega), rfl⟩)
  ·
    refine Wp.path (k := 2) [0] (C := [0 ≤ j]) (pc' := 4) (ls' := [some (.inr (.inr (609, i))), some (.inl j), some (.inl v)]) (st' := []) (M' := M) rfl c_1 ?_
    rcases Int.lt_or_le (j) (144) with c_2 | c_2
    ·
      refine Wp.path (k := 4) [0] (C := [j < 144]) (pc' := 10) (ls' := [some (.inr (.inr (609, i))), some (.inl j), some (.inl v)]) (st' := []) (M' := M) rfl c_2 ?_
      refine Wp.path (k := 4) [] (C := [0 ≤ j ∧ j < 144]) (pc' := 14) (ls' := [some (.inr (.inr (609, i))), some (.inl j), some (.inl v)]) (st' := []) (M' := setI M 609 i j.toNat v) rfl (show 0 ≤ j ∧ j < 144 from ⟨by omega, by omega⟩) ?_
      exact Wp.ret rfl (⟨putN_in (by omega) (by omega), rfl⟩)
    ·
      refine Wp.path (k := 4) [1] (C := [144 ≤ j]) (pc' := 14) (ls' := [some (.inr (.inr (609, i))), some (.inl j), some (.inl v)]) (st' := []) (M' := M) rfl c_2 ?_
      exact Wp.ret rfl (⟨putN_out (by omega), rfl⟩)
theorem at_700 {i : Nat} {j : Int} {M : Mm}  : Ev 0 937 [.inr (.inr (700, i)), .inl j] M (fun v M' => M' = M ∧ v = some (.inl (atN 60 (M.1 700 i) j))) := by
  show Wp 0 937 0 [some (.inr (.inr (700, i))), some (.inl j)] [] M _
  rcases Int.lt_or_le (j) (0) with c_1 | c_1
  ·
    refine Wp.path (k := 2) [1] (C := [j < 0]) (pc' := 16) (ls' := [some (.inr (.inr (700, i))), some (.inl j)]) (st' := []) (M' := M) rfl c_1 ?_
    refine Wp.path (k := 1) [] (C := []) (pc' := 17) (ls' := [some (.inr (.inr (700, i))), some (.inl j)]) (st' := [.inl 0]) (M' := M) rfl trivial ?_
    exact Wp.ret rfl (⟨rfl, by unfold atN; (repeat' split) <;> first | rfl | (exfalso; omega)⟩)
  ·
    refine Wp.path (k := 2) [0] (C := [0 ≤ j]) (pc' := 4) (ls' := [some (.inr (.inr (700, i))), some (.inl j)]) (st' := []) (M' := M) rfl c_1 ?_
    rcases Int.lt_or_le (j) (60) with c_2 | c_2
    ·
      refine Wp.path (k := 4) [0] (C := [j < 60]) (pc' := 10) (ls' := [some (.inr (.inr (700, i))), some (.inl j)]) (st' := []) (M' := M) rfl c_2 ?_
      refine Wp.path (k := 4) [] (C := [0 ≤ j ∧ j < 60]) (pc' := 17) (ls' := [some (.inr (.inr (700, i))), some (.inl j)]) (st' := [.inl (M.1 700 i j.toNat)]) (M' := M) rfl (show 0 ≤ j ∧ j < 60 from ⟨by omega, by omega⟩) ?_
      exact Wp.ret rfl (⟨rfl, by unfold atN; (repeat' split) <;> first | rfl | (exfalso; omega)⟩)
    ·
      refine Wp.path (k := 4) [1] (C := [60 ≤ j]) (pc' := 16) (ls' := [some (.inr (.inr (700, i))), some (.inl j)]) (st' := []) (M' := M) rfl c_2 ?_
      refine Wp.path (k := 1) [] (C := []) (pc' := 17) (ls' := [some (.inr (.inr (700, i))), some (.inl j)]) (st' := [.inl 0]) (M' := M) rfl trivial ?_
      exact Wp.ret rfl (⟨rfl, by unfold atN; (repeat' split) <;> first | rfl | (exfalso; omega)⟩)
theorem put_700 {i : Nat} {j v : Int} {M : Mm}  : Ev 0 938 [.inr (.inr (700, i)), .inl j, .inl v] M (fun w M' => M' = setA M 700 i (putN 60 (M.1 700 i) j v) ∧ w = none) := by
  show Wp 0 938 0 [some (.inr (.inr (700, i))), some (.inl j), some (.inl v)] [] M _
  rcases Int.lt_or_le (j) (0) with c_1 | c_1
  ·
    refine Wp.path (k := 2) [1] (C := [j < 0]) (pc' := 14) (ls' := [some (.inr (.inr (700, i))), some (.inl j), some (.inl v)]) (st' := []) (M' := M) rfl c_1 ?_
    exact Wp.ret rfl (⟨putN_out (by omega), rfl⟩)
  ·
    refine Wp.path (k := 2) [0] (C := [0 ≤ j]) (pc' := 4) (ls' := [some (.inr (.inr (700, i))), some (.inl j), some (.inl v)]) (st' := []) (M' := M) rfl c_1 ?_
    rcases Int.lt_or_le (j) (60) with c_2 | c_2
    ·
      refine Wp.path (k := 4) [0] (C := [j < 60]) (pc' := 10) (ls' := [some (.inr (.inr (700, i))), some (.inl j), some (.inl v)]) (st' := []) (M' := M) rfl c_2 ?_
      refine Wp.path (k := 4) [] (C := [0 ≤ j ∧ j < 60]) (pc' := 14) (ls' := [some (.inr (.inr (700, i))), some (.inl j), some (.inl v)]) (st' := []) (M' := setI M 700 i j.toNat v) rfl (show 0 ≤ j ∧ j < 60 from ⟨by omega, by omega⟩) ?_
      exact Wp.ret rfl (⟨putN_in (by omega) (by omega), rfl⟩)
    ·
      refine Wp.path (k := 4) [1] (C := [60 ≤ j]) (pc' := 14) (ls' := [some (.inr (.inr (700, i))), some (.inl j), some (.inl v)]) (st' := []) (M' := M) rfl c_2 ?_
      exact Wp.ret rfl (⟨putN_out (by omega), rfl⟩)
theorem at_701 {i : Nat} {j : Int} {M : Mm}  : Ev 0 937 [.inr (.inr (701, i)), .inl j] M (fun v M' => M' = M ∧ v = some (.inl (atN 150 (M.1 701 i) j))) := by
  show Wp 0 937 0 [some (.inr (.inr (701, i))), some (.inl j)] [] M _
  rcases Int.lt_or_le (j) (0) with c_1 | c_1
  ·
    refine Wp.path (k := 2) [1] (C := [j < 0]) (pc' := 16) (ls' := [some (.inr (.inr (701, i))), some (.inl j)]) (st' := []) (M' := M) rfl c_1 ?_
    refine Wp.path (k := 1) [] (C := []) (pc' := 17) (ls' := [some (.inr (.inr (701, i))), some (.inl j)]) (st' := [.inl 0]) (M' := M) rfl trivial ?_
    exact Wp.ret rfl (⟨rfl, by unfold atN; (repeat' split) <;> first | rfl | (exfalso; omega)⟩)
  ·
    refine Wp.path (k := 2) [0] (C := [0 ≤ j]) (pc' := 4) (ls' := [some (.inr (.inr (701, i))), some (.inl j)]) (st' := []) (M' := M) rfl c_1 ?_
    rcases Int.lt_or_le (j) (150) with c_2 | c_2
    ·
      refine Wp.path (k := 4) [0] (C := [j < 150]) (pc' := 10) (ls' := [some (.inr (.inr (701, i))), some (.inl j)]) (st' := []) (M' := M) rfl c_2 ?_
      refine Wp.path (k := 4) [] (C := [0 ≤ j ∧ j < 150]) (pc' := 17) (ls' := [some (.inr (.inr (701, i))), some (.inl j)]) (st' := [.inl (M.1 701 i j.toNat)]) (M' := M) rfl (show 0 ≤ j ∧ j < 150 from ⟨by omega, by omega⟩) ?_
      exact Wp.ret rfl (⟨rfl, by unfold atN; (repeat' split) <;> first | rfl | (exfalso; omega)⟩)
    ·
      refine Wp.path (k := 4) [1] (C := [150 ≤ j]) (pc' := 16) (ls' := [some (.inr (.inr (701, i))), some (.inl j)]) (st' := []) (M' := M) rfl c_2 ?_
      refine Wp.path (k := 1) [] (C := []) (pc' := 17) (ls' := [some (.inr (.inr (701, i))), some (.inl j)]) (st' := [.inl 0]) (M' := M) rfl trivial ?_
      exact Wp.ret rfl (⟨rfl, by unfold atN; (repeat' split) <;> first | rfl | (exfalso; omega)⟩)
theorem put_701 {i : Nat} {j v : Int} {M : Mm}  : Ev 0 938 [.inr (.inr (701, i)), .inl j, .inl v] M (fun w M' => M' = setA M 701 i (putN 150 (M.1 701 i) j v) ∧ w = none) := by
  show Wp 0 938 0 [some (.inr (.inr (701, i))), some (.inl j), some (.inl v)] [] M _
  rcases Int.lt_or_le (j) (0) with c_1 | c_1
  ·
    refine Wp.path (k := 2) [1] (C := [j < 0]) (pc' := 14) (ls' := [some (.inr (.inr (701, i))), some (.inl j), some (.inl v)]) (st' := []) (M' := M) rfl c_1 ?_
    exact Wp.ret rfl (⟨putN_out (by omega), rfl⟩)
  ·
    refine Wp.path (k := 2) [0] (C := [0 ≤ j]) (pc' := 4) (ls' := [some (.inr (.inr (701, i))), some (.inl j), some (.inl v)]) (st' := []) (M' := M) rfl c_1 ?_
    rcases Int.lt_or_le (j) (150) with c_2 | c_2
    ·
      refine Wp.path (k := 4) [0] (C := [j < 150]) (pc' := 10) (ls' := [some (.inr (.inr (701, i))), some (.inl j), some (.inl v)]) (st' := []) (M' := M) rfl c_2 ?_
      refine Wp.path (k := 4) [] (C := [0 ≤ j ∧ j < 150]) (pc' := 14) (ls' := [some (.inr (.inr (701, i))), some (.inl j), some (.inl v)]) (st' := []) (M' := setI M 701 i j.toNat v) rfl (show 0 ≤ j ∧ j < 150 from ⟨by omega, by omega⟩) ?_
      exact Wp.ret rfl (⟨putN_in (by omega) (by omega), rfl⟩)
    ·
      refine Wp.path (k := 4) [1] (C := [150 ≤ j]) (pc' := 14) (ls' := [some (.inr (.inr (701, i))), some (.inl j), some (.inl v)]) (st' := []) (M' := M) rfl c_2 ?_
      exact Wp.ret rfl (⟨putN_out (by omega), rfl⟩)
theorem at_800 {i : Nat} {j : Int} {M : Mm}  : Ev 0 937 [.inr (.inr (800, i)), .inl j] M (fun v M' => M' = M ∧ v = some (.inl (atN 864 (M.1 800 i) j))) := by
  show Wp 0 937 0 [some (.inr (.inr (800, i))), some (.inl j)] [] M _
  rcases Int.lt_or_le (j) (0) with c_1 | c_1
  ·
    refine Wp.path (k := 2) [1] (C := [j < 0]) (pc' := 16) (ls' := [some (.inr (.inr (800, i))), some (.inl j)]) (st' := []) (M' := M) rfl c_1 ?_
    refine Wp.path (k := 1) [] (C := []) (pc' := 17) (ls' := [some (.inr (.inr (800, i))), some (.inl j)]) (st' := [.inl 0]) (M' := M) rfl trivial ?_
    exact Wp.ret rfl (⟨rfl, by unfold atN; (repeat' split) <;> first | rfl | (exfalso; omega)⟩)
  ·
    refine Wp.path (k := 2) [0] (C := [0 ≤ j]) (pc' := 4) (ls' := [some (.inr (.inr (800, i))), some (.inl j)]) (st' := []) (M' := M) rfl c_1 ?_
    rcases Int.lt_or_le (j) (864) with c_2 | c_2
    ·
      refine Wp.path (k := 4) [0] (C := [j < 864]) (pc' := 10) (ls' := [some (.inr (.inr (800, i))), some (.inl j)]) (st' := []) (M' := M) rfl c_2 ?_
      refine Wp.path (k := 4) [] (C := [0 ≤ j ∧ j < 864]) (pc' := 17) (ls' := [some (.inr (.inr (800, i))), some (.inl j)]) (st' := [.inl (M.1 800 i j.toNat)]) (M' := M) rfl (show 0 ≤ j ∧ j < 864 from ⟨by omega, by omega⟩) ?_
      exact Wp.ret rfl (⟨rfl, by unfold atN; (repeat' split) <;> first | rfl | (exfalso; omega)⟩)
    ·
      refine Wp.path (k := 4) [1] (C := [864 ≤ j]) (pc' := 16) (ls' := [some (.inr (.inr (800, i))), some (.inl j)]) (st' := []) (M' := M) rfl c_2 ?_
      refine Wp.path (k := 1) [] (C := []) (pc' := 17) (ls' := [some (.inr (.inr (800, i))), some (.inl j)]) (st' := [.inl 0]) (M' := M) rfl trivial ?_
      exact Wp.ret rfl (⟨rfl, by unfold atN; (repeat' split) <;> first | rfl | (exfalso; omega)⟩)
theorem put_800 {i : Nat} {j v : Int} {M : Mm}  : Ev 0 938 [.inr (.inr (800, i)), .inl j, .inl v] M (fun w M' => M' = setA M 800 i (putN 864 (M.1 800 i) j v) ∧ w = none) := by
  show Wp 0 938 0 [some (.inr (.inr (800, i))), some (.inl j), some (.inl v)] [] M _
  rcases Int.lt_or_le (j) (0) with c_1 | c_1
  ·
    refine Wp.path (k := 2) [1] (C := [j < 0]) (pc' := 14) (ls' := [some (.inr (.inr (800, i))), some (.inl j), some (.inl v)]) (st' := []) (M' := M) rfl c_1 ?_
    exact Wp.ret rfl (⟨putN_out (by omega), rfl⟩)
  ·
    refine Wp.path (k := 2) [0] (C := [0 ≤ j]) (pc' := 4) (ls' := [some (.inr (.inr (800, i))), some (.inl j), some (.inl v)]) (st' := []) (M' := M) rfl c_1 ?_
    rcases Int.lt_or_le (j) (864) with c_2 | c_2
    ·
      refine Wp.path (k := 4) [0] (C := [j < 864]) (pc' := 10) (ls' := [some (.inr (.inr (800, i))), some (.inl j), some (.inl v)]) (st' := []) (M' := M) rfl c_2 ?_
      refine Wp.path (k := 4) [] (C := [0 ≤ j ∧ j < 864]) (pc' := 14) (ls' := [some (.inr (.inr (800, i))), some (.inl j), some (.inl v)]) (st' := []) (M' := setI M 800 i j.toNat v) rfl (show 0 ≤ j ∧ j < 864 from ⟨by omega, by omega⟩) ?_
      exact Wp.ret rfl (⟨putN_in (by omega) (by omega), rfl⟩)
    ·
      refine Wp.path (k := 4) [1] (C := [864 ≤ j]) (pc' := 14) (ls' := [some (.inr (.inr (800, i))), some (.inl j), some (.inl v)]) (st' := []) (M' := M) rfl c_2 ?_
      exact Wp.ret rfl (⟨putN_out (by omega), rfl⟩)
theorem at_801 {i : Nat} {j : Int} {M : Mm}  : Ev 0 937 [.inr (.inr (801, i)), .inl j] M (fun v M' => M' = M ∧ v = some (.inl (atN 864 (M.1 801 i) j))) := by
  show Wp 0 937 0 [some (.inr (.inr (801, i))), some (.inl j)] [] M _
  rcases Int.lt_or_le (j) (0) with c_1 | c_1
  ·
    refine Wp.path (k := 2) [1] (C := [j < 0]) (pc' := 16) (ls' := [some (.inr (.inr (801, i))), some (.inl j)]) (st' := []) (M' := M) rfl c_1 ?_
    refine Wp.path (k := 1) [] (C := []) (pc' := 17) (ls' := [some (.inr (.inr (801, i))), some (.inl j)]) (st' := [.inl 0]) (M' := M) rfl trivial ?_
    exact Wp.ret rfl (⟨rfl, by unfold atN; (repeat' split) <;> first | rfl | (exfalso; omega)⟩)
  ·
    refine Wp.path (k := 2) [0] (C := [0 ≤ j]) (pc' := 4) (ls' := [some (.inr (.inr (801, i))), some (.inl j)]) (st' := []) (M' := M) rfl c_1 ?_
    rcases Int.lt_or_le (j) (864) with c_2 | c_2
    ·
      refine Wp.path (k := 4) [0] (C := [j < 864]) (pc' := 10) (ls' := [some (.inr (.inr (801, i))), some (.inl j)]) (st' := []) (M' := M) rfl c_2 ?_
      refine Wp.path (k := 4) [] (C := [0 ≤ j ∧ j < 864]) (pc' := 17) (ls' := [some (.inr (.inr (801, i))), some (.inl j)]) (st' := [.inl (M.1 801 i j.toNat)]) (M' := M) rfl (show 0 ≤ j ∧ j < 864 from ⟨by omega, by omega⟩) ?_
      exact Wp.ret rfl (⟨rfl, by unfold atN; (repeat' split) <;> first | rfl | (exfalso; omega)⟩)
    ·
      refine Wp.path (k := 4) [1] (C := [864 ≤ j]) (pc' := 16) (ls' := [some (.inr (.inr (801, i))), some (.inl j)]) (st' := []) (M' := M) rfl c_2 ?_
      refine Wp.path (k := 1) [] (C := []) (pc' := 17) (ls' := [some (.inr (.inr (801, i))), some (.inl j)]) (st' := [.inl 0]) (M' := M) rfl trivial ?_
      exact Wp.ret rfl (⟨rfl, by unfold atN; (repeat' split) <;> first | rfl | (exfalso; omega)⟩)
theorem put_801 {i : Nat} {j v : Int} {M : Mm}  : Ev 0 938 [.inr (.inr (801, i)), .inl j, .inl v] M (fun w M' => M' = setA M 801 i (putN 864 (M.1 801 i) j v) ∧ w = none) := by
  show Wp 0 938 0 [some (.inr (.inr (801, i))), some (.inl j), some (.inl v)] [] M _
  rcases Int.lt_or_le (j) (0) with c_1 | c_1
  ·
    refine Wp.path (k := 2) [1] (C := [j < 0]) (pc' := 14) (ls' := [some (.inr (.inr (801, i))), some (.inl j), some (.inl v)]) (st' := []) (M' := M) rfl c_1 ?_
    exact Wp.ret rfl (⟨putN_out (by omega), rfl⟩)
  ·
    refine Wp.path (k := 2) [0] (C := [0 ≤ j]) (pc' := 4) (ls' := [some (.inr (.inr (801, i))), some (.inl j), some (.inl v)]) (st' := []) (M' := M) rfl c_1 ?_
    rcases Int.lt_or_le (j) (864) with c_2 | c_2
    ·
      refine Wp.path (k := 4) [0] (C := [j < 864]) (pc' := 10) (ls' := [some (.inr (.inr (801, i))), some (.inl j), some (.inl v)]) (st' := []) (M' := M) rfl c_2 ?_
      refine Wp.path (k := 4) [] (C := [0 ≤ j ∧ j < 864]) (pc' := 14) (ls' := [some (.inr (.inr (801, i))), some (.inl j), some (.inl v)]) (st' := []) (M' := setI M 801 i j.toNat v) rfl (show 0 ≤ j ∧ j < 864 from ⟨by omega, by omega⟩) ?_
      exact Wp.ret rfl (⟨putN_in (by omega) (by omega), rfl⟩)
    ·
      refine Wp.path (k := 4) [1] (C := [864 ≤ j]) (pc' := 14) (ls' := [some (.inr (.inr (801, i))), some (.inl j), some (.inl v)]) (st' := []) (M' := M) rfl c_2 ?_
      exact Wp.ret rfl (⟨putN_out (by omega), rfl⟩)
theorem at_802 {i : Nat} {j : Int} {M : Mm}  : Ev 0 937 [.inr (.inr (802, i)), .inl j] M (fun v M' => M' = M ∧ v = some (.inl (atN 864 (M.1 802 i) j))) := by
  show Wp 0 937 0 [some (.inr (.inr (802, i))), some (.inl j)] [] M _
  rcases Int.lt_or_le (j) (0) with c_1 | c_1
  ·
    refine Wp.path (k := 2) [1] (C := [j < 0]) (pc' := 16) (ls' := [some (.inr (.inr (802, i))), some (.inl j)]) (st' := []) (M' := M) rfl c_1 ?_
    refine Wp.path (k := 1) [] (C := []) (pc' := 17) (ls' := [some (.inr (.inr (802, i))), some (.inl j)]) (st' := [.inl 0]) (M' := M) rfl trivial ?_
    exact Wp.ret rfl (⟨rfl, by unfold atN; (repeat' split) <;> first | rfl | (exfalso; omega)⟩)
  ·
    refine Wp.path (k := 2) [0] (C := [0 ≤ j]) (pc' := 4) (ls' := [some (.inr (.inr (802, i))), some (.inl j)]) (st' := []) (M' := M) rfl c_1 ?_
    rcases Int.lt_or_le (j) (864) with c_2 | c_2
    ·
      refine Wp.path (k := 4) [0] (C := [j < 864]) (pc' := 10) (ls' := [some (.inr (.inr (802, i))), some (.inl j)]) (st' := []) (M' := M) rfl c_2 ?_
      refine Wp.path (k := 4) [] (C := [0 ≤ j ∧ j < 864]) (pc' := 17) (ls' := [some (.inr (.inr (802, i))), some (.inl j)]) (st' := [.inl (M.1 802 i j.toNat)]) (M' := M) rfl (show 0 ≤ j ∧ j < 864 from ⟨by omega, by omega⟩) ?_
      exact Wp.ret rfl (⟨rfl, by unfold atN; (repeat' split) <;> first | rfl | (exfalso; omega)⟩)
    ·
      refine Wp.path (k := 4) [1] (C := [864 ≤ j]) (pc' := 16) (ls' := [some (.inr (.inr (802, i))), some (.inl j)]) (st' := []) (M' := M) rfl c_2 ?_
      refine Wp.path (k := 1) [] (C := []) (pc' := 17) (ls' := [some (.inr (.inr (802, i))), some (.inl j)]) (st' := [.inl 0]) (M' := M) rfl trivial ?_
      exact Wp.ret rfl (⟨rfl, by unfold atN; (repeat' split) <;> first | rfl | (exfalso; omega)⟩)
theorem put_802 {i : Nat} {j v : Int} {M : Mm}  : Ev 0 938 [.inr (.inr (802, i)), .inl j, .inl v] M (fun w M' => M' = setA M 802 i (putN 864 (M.1 802 i) j v) ∧ w = none) := by
  show Wp 0 938 0 [some (.inr (.inr (802, i))), some (.inl j), some (.inl v)] [] M _
  rcases Int.lt_or_le (j) (0) with c_1 | c_1
  ·
    refine Wp.path (k := 2) [1] (C := [j < 0]) (pc' := 14) (ls' := [some (.inr (.inr (802, i))), some (.inl j), some (.inl v)]) (st' := []) (M' := M) rfl c_1 ?_
    exact Wp.ret rfl (⟨putN_out (by omega), rfl⟩)
  ·
    refine Wp.path (k := 2) [0] (C := [0 ≤ j]) (pc' := 4) (ls' := [some (.inr (.inr (802, i))), some (.inl j), some (.inl v)]) (st' := []) (M' := M) rfl c_1 ?_
    rcases Int.lt_or_le (j) (864) with c_2 | c_2
    ·
      refine Wp.path (k := 4) [0] (C := [j < 864]) (pc' := 10) (ls' := [some (.inr (.inr (802, i))), some (.inl j), some (.inl v)]) (st' := []) (M' := M) rfl c_2 ?_
      refine Wp.path (k := 4) [] (C := [0 ≤ j ∧ j < 864]) (pc' := 14) (ls' := [some (.inr (.inr (802, i))), some (.inl j), some (.inl v)]) (st' := []) (M' := setI M 802 i j.toNat v) rfl (show 0 ≤ j ∧ j < 864 from ⟨by omega, by omega⟩) ?_
      exact Wp.ret rfl (⟨putN_in (by omega) (by omega), rfl⟩)
    ·
      refine Wp.path (k := 4) [1] (C := [864 ≤ j]) (pc' := 14) (ls' := [some (.inr (.inr (802, i))), some (.inl j), some (.inl v)]) (st' := []) (M' := M) rfl c_2 ?_
      exact Wp.ret rfl (⟨putN_out (by omega), rfl⟩)
theorem at_803 {i : Nat} {j : Int} {M : Mm}  : Ev 0 937 [.inr (.inr (803, i)), .inl j] M (fun v M' => M' = M ∧ v = some (.inl (atN 864 (M.1 803 i) j))) := by
  show Wp 0 937 0 [some (.inr (.inr (803, i))), some (.inl j)] [] M _
  rcases Int.lt_or_le (j) (0) with c_1 | c_1
  ·
    refine Wp.path (k := 2) [1] (C := [j < 0]) (pc' := 16) (ls' := [some (.inr (.inr (803, i))), some (.inl j)]) (st' := []) (M' := M) rfl c_1 ?_
    refine Wp.path (k := 1) [] (C := []) (pc' := 17) (ls' := [some (.inr (.inr (803, i))), some (.inl j)]) (st' := [.inl 0]) (M' := M) rfl trivial ?_
    exact Wp.ret rfl (⟨rfl, by unfold atN; (repeat' split) <;> first | rfl | (exfalso; omega)⟩)
  ·
    refine Wp.path (k := 2) [0] (C := [0 ≤ j]) (pc' := 4) (ls' := [some (.inr (.inr (803, i))), some (.inl j)]) (st' := []) (M' := M) rfl c_1 ?_
    rcases Int.lt_or_le (j) (864) with c_2 | c_2
    ·
      refine Wp.path (k := 4) [0] (C := [j < 864]) (pc' := 10) (ls' := [some (.inr (.inr (803, i))), some (.inl j)]) (st' := []) (M' := M) rfl c_2 ?_
      refine Wp.path (k := 4) [] (C := [0 ≤ j ∧ j < 864]) (pc' := 17) (ls' := [some (.inr (.inr (803, i))), some (.inl j)]) (st' := [.inl (M.1 803 i j.toNat)]) (M' := M) rfl (show 0 ≤ j ∧ j < 864 from ⟨by omega, by omega⟩) ?_
      exact Wp.ret rfl (⟨rfl, by unfold atN; (repeat' split) <;> first | rfl | (exfalso; omega)⟩)
    ·
      refine Wp.path (k := 4) [1] (C := [864 ≤ j]) (pc' := 16) (ls' := [some (.inr (.inr (803, i))), some (.inl j)]) (st' := []) (M' := M) rfl c_2 ?_
      refine Wp.path (k := 1) [] (C := []) (pc' := 17) (ls' := [some (.inr (.inr (803, i))), some (.inl j)]) (st' := [.inl 0]) (M' := M) rfl trivial ?_
      exact Wp.ret rfl (⟨rfl, by unfold atN; (repeat' split) <;> first | rfl | (exfalso; omega)⟩)
theorem put_803 {i : Nat} {j v : Int} {M : Mm}  : Ev 0 938 [.inr (.inr (803, i)), .inl j, .inl v] M (fun w M' => M' = setA M 803 i (putN 864 (M.1 803 i) j v) ∧ w = none) := by
  show Wp 0 938 0 [some (.inr (.inr (803, i))), some (.inl j), some (.inl v)] [] M _
  rcases Int.lt_or_le (j) (0) with c_1 | c_1
  ·
    refine Wp.path (k := 2) [1] (C := [j < 0]) (pc' := 14) (ls' := [some (.inr (.inr (803, i))), some (.inl j), some (.inl v)]) (st' := []) (M' := M) rfl c_1 ?_
    exact Wp.ret rfl (⟨putN_out (by omega), rfl⟩)
  ·
    refine Wp.path (k := 2) [0] (C := [0 ≤ j]) (pc' := 4) (ls' := [some (.inr (.inr (803, i))), some (.inl j), some (.inl v)]) (st' := []) (M' := M) rfl c_1 ?_
    rcases Int.lt_or_le (j) (864) with c_2 | c_2
    ·
      refine Wp.path (k := 4) [0] (C := [j < 864]) (pc' := 10) (ls' := [some (.inr (.inr (803, i))), some (.inl j), some (.inl v)]) (st' := []) (M' := M) rfl c_2 ?_
      refine Wp.path (k := 4) [] (C := [0 ≤ j ∧ j < 864]) (pc' := 14) (ls' := [some (.inr (.inr (803, i))), some (.inl j), some (.inl v)]) (st' := []) (M' := setI M 803 i j.toNat v) rfl (show 0 ≤ j ∧ j < 864 from ⟨by omega, by omega⟩) ?_
      exact Wp.ret rfl (⟨putN_in (by omega) (by omega), rfl⟩)
    ·
      refine Wp.path (k := 4) [1] (C := [864 ≤ j]) (pc' := 14) (ls' := [some (.inr (.inr (803, i))), some (.inl j), some (.inl v)]) (st' := []) (M' := M) rfl c_2 ?_
      exact Wp.ret rfl (⟨putN_out (by omega), rfl⟩)
theorem at_804 {i : Nat} {j : Int} {M : Mm}  : Ev 0 937 [.inr (.inr (804, i)), .inl j] M (fun v M' => M' = M ∧ v = some (.inl (atN 864 (M.1 804 i) j))) := by
  show Wp 0 937 0 [some (.inr (.inr (804, i))), some (.inl j)] [] M _
  rcases Int.lt_or_le (j) (0) with c_1 | c_1
  ·
    refine Wp.path (k := 2) [1] (C := [j < 0]) (pc' := 16) (ls' := [some (.inr (.inr (804, i))), some (.inl j)]) (st' := []) (M' := M) rfl c_1 ?_
    refine Wp.path (k := 1) [] (C := []) (pc' := 17) (ls' := [some (.inr (.inr (804, i))), some (.inl j)]) (st' := [.inl 0]) (M' := M) rfl trivial ?_
    exact Wp.ret rfl (⟨rfl, by unfold atN; (repeat' split) <;> first | rfl | (exfalso; omega)⟩)
  ·
    refine Wp.path (k := 2) [0] (C := [0 ≤ j]) (pc' := 4) (ls' := [some (.inr (.inr (804, i))), some (.inl j)]) (st' := []) (M' := M) rfl c_1 ?_
    rcases Int.lt_or_le (j) (864) with c_2 | c_2
    ·
      refine Wp.path (k := 4) [0] (C := [j < 864]) (pc' := 10) (ls' := [some (.inr (.inr (804, i))), some (.inl j)]) (st' := []) (M' := M) rfl c_2 ?_
      refine Wp.path (k := 4) [] (C := [0 ≤ j ∧ j < 864]) (pc' := 17) (ls' := [some (.inr (.inr (804, i))), some (.inl j)]) (st' := [.inl (M.1 804 i j.toNat)]) (M' := M) rfl (show 0 ≤ j ∧ j < 864 from ⟨by omega, by omega⟩) ?_
      exact Wp.ret rfl (⟨rfl, by unfold atN; (repeat' split) <;> first | rfl | (exfalso; omega)⟩)
    ·
      refine Wp.path (k := 4) [1] (C := [864 ≤ j]) (pc' := 16) (ls' := [some (.inr (.inr (804, i))), some (.inl j)]) (st' := []) (M' := M) rfl c_2 ?_
      refine Wp.path (k := 1) [] (C := []) (pc' := 17) (ls' := [some (.inr (.inr (804, i))), some (.inl j)]) (st' := [.inl 0]) (M' := M) rfl trivial ?_
      exact Wp.ret rfl (⟨rfl, by unfold atN; (repeat' split) <;> first | rfl | (exfalso; omega)⟩)
theorem put_804 {i : Nat} {j v : Int} {M : Mm}  : Ev 0 938 [.inr (.inr (804, i)), .inl j, .inl v] M (fun w M' => M' = setA M 804 i (putN 864 (M.1 804 i) j v) ∧ w = none) := by
  show Wp 0 938 0 [some (.inr (.inr (804, i))), some (.inl j), some (.inl v)] [] M _
  rcases Int.lt_or_le (j) (0) with c_1 | c_1
  ·
    refine Wp.path (k := 2) [1] (C := [j < 0]) (pc' := 14) (ls' := [some (.inr (.inr (804, i))), some (.inl j), some (.inl v)]) (st' := []) (M' := M) rfl c_1 ?_
    exact Wp.ret rfl (⟨putN_out (by omega), rfl⟩)
  ·
    refine Wp.path (k := 2) [0] (C := [0 ≤ j]) (pc' := 4) (ls' := [some (.inr (.inr (804, i))), some (.inl j), some (.inl v)]) (st' := []) (M' := M) rfl c_1 ?_
    rcases Int.lt_or_le (j) (864) with c_2 | c_2
    ·
      refine Wp.path (k := 4) [0] (C := [j < 864]) (pc' := 10) (ls' := [some (.inr (.inr (804, i))), some (.inl j), some (.inl v)]) (st' := []) (M' := M) rfl c_2 ?_
      refine Wp.path (k := 4) [] (C := [0 ≤ j ∧ j < 864]) (pc' := 14) (ls' := [some (.inr (.inr (804, i))), some (.inl j), some (.inl v)]) (st' := []) (M' := setI M 804 i j.toNat v) rfl (show 0 ≤ j ∧ j < 864 from ⟨by omega, by omega⟩) ?_
      exact Wp.ret rfl (⟨putN_in (by omega) (by omega), rfl⟩)
    ·
      refine Wp.path (k := 4) [1] (C := [864 ≤ j]) (pc' := 14) (ls' := [some (.inr (.inr (804, i))), some (.inl j), some (.inl v)]) (st' := []) (M' := M) rfl c_2 ?_
      exact Wp.ret rfl (⟨putN_out (by omega), rfl⟩)
theorem at_805 {i : Nat} {j : Int} {M : Mm}  : Ev 0 937 [.inr (.inr (805, i)), .inl j] M (fun v M' => M' = M ∧ v = some (.inl (atN 864 (M.1 805 i) j))) := by
  show Wp 0 937 0 [some (.inr (.inr (805, i))), some (.inl j)] [] M _
  rcases Int.lt_or_le (j) (0) with c_1 | c_1
  ·
    refine Wp.path (k := 2) [1] (C := [j < 0]) (pc' := 16) (ls' := [some (.inr (.inr (805, i))), some (.inl j)]) (st' := []) (M' := M) rfl c_1 ?_
    refine Wp.path (k := 1) [] (C := []) (pc' := 17) (ls' := [some (.inr (.inr (805, i))), some (.inl j)]) (st' := [.inl 0]) (M' := M) rfl trivial ?_
    exact Wp.ret rfl (⟨rfl, by unfold atN; (repeat' split) <;> first | rfl | (exfalso; omega)⟩)
  ·
    refine Wp.path (k := 2) [0] (C := [0 ≤ j]) (pc' := 4) (ls' := [some (.inr (.inr (805, i))), some (.inl j)]) (st' := []) (M' := M) rfl c_1 ?_
    rcases Int.lt_or_le (j) (864) with c_2 | c_2
    ·
      refine Wp.path (k := 4) [0] (C := [j < 864]) (pc' := 10) (ls' := [some (.inr (.inr (805, i))), some (.inl j)]) (st' := []) (M' := M) rfl c_2 ?_
      refine Wp.path (k := 4) [] (C := [0 ≤ j ∧ j < 864]) (pc' := 17) (ls' := [some (.inr (.inr (805, i))), some (.inl j)]) (st' := [.inl (M.1 805 i j.toNat)]) (M' := M) rfl (show 0 ≤ j ∧ j < 864 from ⟨by omega, by omega⟩) ?_
      exact Wp.ret rfl (⟨rfl, by unfold atN; (repeat' split) <;> first | rfl | (exfalso; omega)⟩)
    ·
      refine Wp.path (k := 4) [1] (C := [864 ≤ j]) (pc' := 16) (ls' := [some (.inr (.inr (805, i))), some (.inl j)]) (st' := []) (M' := M) rfl c_2 ?_
      refine Wp.path (k := 1) [] (C := []) (pc' := 17) (ls' := [some (.inr (.inr (805, i))), some (.inl j)]) (st' := [.inl 0]) (M' := M) rfl trivial ?_
      exact Wp.ret rfl (⟨rfl, by unfold atN; (repeat' split) <;> first | rfl | (exfalso; omega)⟩)
theorem put_805 {i : Nat} {j v : Int} {M : Mm}  : Ev 0 938 [.inr (.inr (805, i)), .inl j, .inl v] M (fun w M' => M' = setA M 805 i (putN 864 (M.1 805 i) j v) ∧ w = none) := by
  show Wp 0 938 0 [some (.inr (.inr (805, i))), some (.inl j), some (.inl v)] [] M _
  rcases Int.lt_or_le (j) (0) with c_1 | c_1
  ·
    refine Wp.path (k := 2) [1] (C := [j < 0]) (pc' := 14) (ls' := [some (.inr (.inr (805, i))), some (.inl j), some (.inl v)]) (st' := []) (M' := M) rfl c_1 ?_
    exact Wp.ret rfl (⟨putN_out (by omega), rfl⟩)
  ·
    refine Wp.path (k := 2) [0] (C := [0 ≤ j]) (pc' := 4) (ls' := [some (.inr (.inr (805, i))), some (.inl j), some (.inl v)]) (st' := []) (M' := M) rfl c_1 ?_
    rcases Int.lt_or_le (j) (864) with c_2 | c_2
    ·
      refine Wp.path (k := 4) [0] (C := [j < 864]) (pc' := 10) (ls' := [some (.inr (.inr (805, i))), some (.inl j), some (.inl v)]) (st' := []) (M' := M) rfl c_2 ?_
      refine Wp.path (k := 4) [] (C := [0 ≤ j ∧ j < 864]) (pc' := 14) (ls' := [some (.inr (.inr (805, i))), some (.inl j), some (.inl v)]) (st' := []) (M' := setI M 805 i j.toNat v) rfl (show 0 ≤ j ∧ j < 864 from ⟨by omega, by omega⟩) ?_
      exact Wp.ret rfl (⟨putN_in (by omega) (by omega), rfl⟩)
    ·
      refine Wp.path (k := 4) [1] (C := [864 ≤ j]) (pc' := 14) (ls' := [some (.inr (.inr (805, i))), some (.inl j), some (.inl v)]) (st' := []) (M' := M) rfl c_2 ?_
      exact Wp.ret rfl (⟨putN_out (by omega), rfl⟩)
theorem at_806 {i : Nat} {j : Int} {M : Mm}  : Ev 0 937 [.inr (.inr (806, i)), .inl j] M (fun v M' => M' = M ∧ v = some (.inl (atN 864 (M.1 806 i) j))) := by
  show Wp 0 937 0 [some (.inr (.inr (806, i))), some (.inl j)] [] M _
  rcases Int.lt_or_le (j) (0) with c_1 | c_1
  ·
    refine Wp.path (k := 2) [1] (C := [j < 0]) (pc' := 16) (ls' := [some (.inr (.inr (806, i))), some (.inl j)]) (st' := []) (M' := M) rfl c_1 ?_
    refine Wp.path (k := 1) [] (C := []) (pc' := 17) (ls' := [some (.inr (.inr (806, i))), some (.inl j)]) (st' := [.inl 0]) (M' := M) rfl trivial ?_
    exact Wp.ret rfl (⟨rfl, by unfold atN; (repeat' split) <;> first | rfl | (exfalso; omega)⟩)
  ·
    refine Wp.path (k := 2) [0] (C := [0 ≤ j]) (pc' := 4) (ls' := [some (.inr (.inr (806, i))), some (.inl j)]) (st' := []) (M' := M) rfl c_1 ?_
    rcases Int.lt_or_le (j) (864) with c_2 | c_2
    ·
      refine Wp.path (k := 4) [0] (C := [j < 864]) (pc' := 10) (ls' := [some (.inr (.inr (806, i))), some (.inl j)]) (st' := []) (M' := M) rfl c_2 ?_
      refine Wp.path (k := 4) [] (C := [0 ≤ j ∧ j < 864]) (pc' := 17) (ls' := [some (.inr (.inr (806, i))), some (.inl j)]) (st' := [.inl (M.1 806 i j.toNat)]) (M' := M) rfl (show 0 ≤ j ∧ j < 864 from ⟨by omega, by omega⟩) ?_
      exact Wp.ret rfl (⟨rfl, by unfold atN; (repeat' split) <;> first | rfl | (exfalso; omega)⟩)
    ·
      refine Wp.path (k := 4) [1] (C := [864 ≤ j]) (pc' := 16) (ls' := [some (.inr (.inr (806, i))), some (.inl j)]) (st' := []) (M' := M) rfl c_2 ?_
      refine Wp.path (k := 1) [] (C := []) (pc' := 17) (ls' := [some (.inr (.inr (806, i))), some (.inl j)]) (st' := [.inl 0]) (M' := M) rfl trivial ?_
      exact Wp.ret rfl (⟨rfl, by unfold atN; (repeat' split) <;> first | rfl | (exfalso; omega)⟩)
theorem put_806 {i : Nat} {j v : Int} {M : Mm}  : Ev 0 938 [.inr (.inr (806, i)), .inl j, .inl v] M (fun w M' => M' = setA M 806 i (putN 864 (M.1 806 i) j v) ∧ w = none) := by
  show Wp 0 938 0 [some (.inr (.inr (806, i))), some (.inl j), some (.inl v)] [] M _
  rcases Int.lt_or_le (j) (0) with c_1 | c_1
  ·
    refine Wp.path (k := 2) [1] (C := [j < 0]) (pc' := 14) (ls' := [some (.inr (.inr (806, i))), some (.inl j), some (.inl v)]) (st' := []) (M' := M) rfl c_1 ?_
    exact Wp.ret rfl (⟨putN_out (by omega), rfl⟩)
  ·
    refine Wp.path (k := 2) [0] (C := [0 ≤ j]) (pc' := 4) (ls' := [some (.inr (.inr (806, i))), some (.inl j), some (.inl v)]) (st' := []) (M' := M) rfl c_1 ?_
    rcases Int.lt_or_le (j) (864) with c_2 | c_2
    ·
      refine Wp.path (k := 4) [0] (C := [j < 864]) (pc' := 10) (ls' := [some (.inr (.inr (806, i))), some (.inl j), some (.inl v)]) (st' := []) (M' := M) rfl c_2 ?_
      refine Wp.path (k := 4) [] (C := [0 ≤ j ∧ j < 864]) (pc' := 14) (ls' := [some (.inr (.inr (806, i))), some (.inl j), some (.inl v)]) (st' := []) (M' := setI M 806 i j.toNat v) rfl (show 0 ≤ j ∧ j < 864 from ⟨by omega, by omega⟩) ?_
      exact Wp.ret rfl (⟨putN_in (by omega) (by omega), rfl⟩)
    ·
      refine Wp.path (k := 4) [1] (C := [864 ≤ j]) (pc' := 14) (ls' := [some (.inr (.inr (806, i))), some (.inl j), some (.inl v)]) (st' := []) (M' := M) rfl c_2 ?_
      exact Wp.ret rfl (⟨putN_out (by omega), rfl⟩)
theorem at_807 {i : Nat} {j : Int} {M : Mm}  : Ev 0 937 [.inr (.inr (807, i)), .inl j] M (fun v M' => M' = M ∧ v = some (.inl (atN 864 (M.1 807 i) j))) := by
  show Wp 0 937 0 [some (.inr (.inr (807, i))), some (.inl j)] [] M _
  rcases Int.lt_or_le (j) (0) with c_1 | c_1
  ·
    refine Wp.path (k := 2) [1] (C := [j < 0]) (pc' := 16) (ls' := [some (.inr (.inr (807, i))), some (.inl j)]) (st' := []) (M' := M) rfl c_1 ?_
    refine Wp.path (k := 1) [] (C := []) (pc' := 17) (ls' := [some (.inr (.inr (807, i))), some (.inl j)]) (st' := [.inl 0]) (M' := M) rfl trivial ?_
    exact Wp.ret rfl (⟨rfl, by unfold atN; (repeat' split) <;> first | rfl | (exfalso; omega)⟩)
  ·
    refine Wp.path (k := 2) [0] (C := [0 ≤ j]) (pc' := 4) (ls' := [some (.inr (.inr (807, i))), some (.inl j)]) (st' := []) (M' := M) rfl c_1 ?_
    rcases Int.lt_or_le (j) (864) with c_2 | c_2
    ·
      refine Wp.path (k := 4) [0] (C := [j < 864]) (pc' := 10) (ls' := [some (.inr (.inr (807, i))), some (.inl j)]) (st' := []) (M' := M) rfl c_2 ?_
      refine Wp.path (k := 4) [] (C := [0 ≤ j ∧ j < 864]) (pc' := 17) (ls' := [some (.inr (.inr (807, i))), some (.inl j)]) (st' := [.inl (M.1 807 i j.toNat)]) (M' := M) rfl (show 0 ≤ j ∧ j < 864 from ⟨by omega, by omega⟩) ?_
      exact Wp.ret rfl (⟨rfl, by unfold atN; (repeat' split) <;> first | rfl | (exfalso; omega)⟩)
    ·
      refine Wp.path (k := 4) [1] (C := [864 ≤ j]) (pc' := 16) (ls' := [some (.inr (.inr (807, i))), some (.inl j)]) (st' := []) (M' := M) rfl c_2 ?_
      refine Wp.path (k := 1) [] (C := []) (pc' := 17) (ls' := [some (.inr (.inr (807, i))), some (.inl j)]) (st' := [.inl 0]) (M' := M) rfl trivial ?_
      exact Wp.ret rfl (⟨rfl, by unfold atN; (repeat' split) <;> first | rfl | (exfalso; omega)⟩)
theorem put_807 {i : Nat} {j v : Int} {M : Mm}  : Ev 0 938 [.inr (.inr (807, i)), .inl j, .inl v] M (fun w M' => M' = setA M 807 i (putN 864 (M.1 807 i) j v) ∧ w = none) := by
  show Wp 0 938 0 [some (.inr (.inr (807, i))), some (.inl j), some (.inl v)] [] M _
  rcases Int.lt_or_le (j) (0) with c_1 | c_1
  ·
    refine Wp.path (k := 2) [1] (C := [j < 0]) (pc' := 14) (ls' := [some (.inr (.inr (807, i))), some (.inl j), some (.inl v)]) (st' := []) (M' := M) rfl c_1 ?_
    exact Wp.ret rfl (⟨putN_out (by omega), rfl⟩)
  ·
    refine Wp.path (k := 2) [0] (C := [0 ≤ j]) (pc' := 4) (ls' := [some (.inr (.inr (807, i))), some (.inl j), some (.inl v)]) (st' := []) (M' := M) rfl c_1 ?_
    rcases Int.lt_or_le (j) (864) with c_2 | c_2
    ·
      refine Wp.path (k := 4) [0] (C := [j < 864]) (pc' := 10) (ls' := [some (.inr (.inr (807, i))), some (.inl j), some (.inl v)]) (st' := []) (M' := M) rfl c_2 ?_
      refine Wp.path (k := 4) [] (C := [0 ≤ j ∧ j < 864]) (pc' := 14) (ls' := [some (.inr (.inr (807, i))), some (.inl j), some (.inl v)]) (st' := []) (M' := setI M 807 i j.toNat v) rfl (show 0 ≤ j ∧ j < 864 from ⟨by omega, by omega⟩) ?_
      exact Wp.ret rfl (⟨putN_in (by omega) (by omega), rfl⟩)
    ·
      refine Wp.path (k := 4) [1] (C := [864 ≤ j]) (pc' := 14) (ls' := [some (.inr (.inr (807, i))), some (.inl j), some (.inl v)]) (st' := []) (M' := M) rfl c_2 ?_
      exact Wp.ret rfl (⟨putN_out (by omega), rfl⟩)
theorem at_808 {i : Nat} {j : Int} {M : Mm}  : Ev 0 937 [.inr (.inr (808, i)), .inl j] M (fun v M' => M' = M ∧ v = some (.inl (atN 864 (M.1 808 i) j))) := by
  show Wp 0 937 0 [some (.inr (.inr (808, i))), some (.inl j)] [] M _
  rcases Int.lt_or_le (j) (0) with c_1 | c_1
  ·
    refine Wp.path (k := 2) [1] (C := [j < 0]) (pc' := 16) (ls' := [some (.inr (.inr (808, i))), some (.inl j)]) (st' := []) (M' := M) rfl c_1 ?_
    refine Wp.path (k := 1) [] (C := []) (pc' := 17) (ls' := [some (.inr (.inr (808, i))), some (.inl j)]) (st' := [.inl 0]) (M' := M) rfl trivial ?_
    exact Wp.ret rfl (⟨rfl, by unfold atN; (repeat' split) <;> first | rfl | (exfalso; omega)⟩)
  ·
    refine Wp.path (k := 2) [0] (C := [0 ≤ j]) (pc' := 4) (ls' := [some (.inr (.inr (808, i))), some (.inl j)]) (st' := []) (M' := M) rfl c_1 ?_
    rcases Int.lt_or_le (j) (864) with c_2 | c_2
    ·
      refine Wp.path (k := 4) [0] (C := [j < 864]) (pc' := 10) (ls' := [some (.inr (.inr (808, i))), some (.inl j)]) (st' := []) (M' := M) rfl c_2 ?_
      refine Wp.path (k := 4) [] (C := [0 ≤ j ∧ j < 864]) (pc' := 17) (ls' := [some (.inr (.inr (808, i))), some (.inl j)]) (st' := [.inl (M.1 808 i j.toNat)]) (M' := M) rfl (show 0 ≤ j ∧ j < 864 from ⟨by omega, by omega⟩) ?_
      exact Wp.ret rfl (⟨rfl, by unfold atN; (repeat' split) <;> first | rfl | (exfalso; omega)⟩)
    ·
      refine Wp.path (k := 4) [1] (C := [864 ≤ j]) (pc' := 16) (ls' := [some (.inr (.inr (808, i))), some (.inl j)]) (st' := []) (M' := M) rfl c_2 ?_
      refine Wp.path (k := 1) [] (C := []) (pc' := 17) (ls' := [some (.inr (.inr (808, i))), some (.inl j)]) (st' := [.inl 0]) (M' := M) rfl trivial ?_
      exact Wp.ret rfl (⟨rfl, by unfold atN; (repeat' split) <;> first | rfl | (exfalso; omega)⟩)
theorem put_808 {i : Nat} {j v : Int} {M : Mm}  : Ev 0 938 [.inr (.inr (808, i)), .inl j, .inl v] M (fun w M' => M' = setA M 808 i (putN 864 (M.1 808 i) j v) ∧ w = none) := by
  show Wp 0 938 0 [some (.inr (.inr (808, i))), some (.inl j), some (.inl v)] [] M _
  rcases Int.lt_or_le (j) (0) with c_1 | c_1
  ·
    refine Wp.path (k := 2) [1] (C := [j < 0]) (pc' := 14) (ls' := [some (.inr (.inr (808, i))), some (.inl j), some (.inl v)]) (st' := []) (M' := M) rfl c_1 ?_
    exact Wp.ret rfl (⟨putN_out (by omega), rfl⟩)
  ·
    refine Wp.path (k := 2) [0] (C := [0 ≤ j]) (pc' := 4) (ls' := [some (.inr (.inr (808, i))), some (.inl j), some (.inl v)]) (st' := []) (M' := M) rfl c_1 ?_
    rcases Int.lt_or_le (j) (864) with c_2 | c_2
    ·
      refine Wp.path (k := 4) [0] (C := [j < 864]) (pc' := 10) (ls' := [some (.inr (.inr (808, i))), some (.inl j), some (.inl v)]) (st' := []) (M' := M) rfl c_2 ?_
      refine Wp.path (k := 4) [] (C := [0 ≤ j ∧ j < 864]) (pc' := 14) (ls' := [some (.inr (.inr (808, i))), some (.inl j), some (.inl v)]) (st' := []) (M' := setI M 808 i j.toNat v) rfl (show 0 ≤ j ∧ j < 864 from ⟨by omega, by omega⟩) ?_
      exact Wp.ret rfl (⟨putN_in (by omega) (by omega), rfl⟩)
    ·
      refine Wp.path (k := 4) [1] (C := [864 ≤ j]) (pc' := 14) (ls' := [some (.inr (.inr (808, i))), some (.inl j), some (.inl v)]) (st' := []) (M' := M) rfl c_2 ?_
      exact Wp.ret rfl (⟨putN_out (by omega), rfl⟩)
theorem at_900 {i : Nat} {j : Int} {M : Mm}  : Ev 0 937 [.inr (.inr (900, i)), .inl j] M (fun v M' => M' = M ∧ v = some (.inl (atN 2304 (M.1 900 i) j))) := by
  show Wp 0 937 0 [some (.inr (.inr (900, i))), some (.inl j)] [] M _
  rcases Int.lt_or_le (j) (0) with c_1 | c_1
  ·
    refine Wp.path (k := 2) [1] (C := [j < 0]) (pc' := 16) (ls' := [some (.inr (.inr (900, i))), some (.inl j)]) (st' := []) (M' := M) rfl c_1 ?_
    refine Wp.path (k := 1) [] (C := []) (pc' := 17) (ls' := [some (.inr (.inr (900, i))), some (.inl j)]) (st' := [.inl 0]) (M' := M) rfl trivial ?_
    exact Wp.ret rfl (⟨rfl, by unfold atN; (repeat' split) <;> first | rfl | (exfalso; omega)⟩)
  ·
    refine Wp.path (k := 2) [0] (C := [0 ≤ j]) (pc' := 4) (ls' := [some (.inr (.inr (900, i))), some (.inl j)]) (st' := []) (M' := M) rfl c_1 ?_
    rcases Int.lt_or_le (j) (2304) with c_2 | c_2
    ·
      refine Wp.path (k := 4) [0] (C := [j < 2304]) (pc' := 10) (ls' := [some (.inr (.inr (900, i))), some (.inl j)]) (st' := []) (M' := M) rfl c_2 ?_
      refine Wp.path (k := 4) [] (C := [0 ≤ j ∧ j < 2304]) (pc' := 17) (ls' := [some (.inr (.inr (900, i))), some (.inl j)]) (st' := [.inl (M.1 900 i j.toNat)]) (M' := M) rfl (show 0 ≤ j ∧ j < 2304 from ⟨by omega, by omega⟩) ?_
      exact Wp.ret rfl (⟨rfl, by unfold atN; (repeat' split) <;> first | rfl | (exfalso; omega)⟩)
    ·
      refine Wp.path (k := 4) [1] (C := [2304 ≤ j]) (pc' := 16) (ls' := [some (.inr (.inr (900, i))), some (.inl j)]) (st' := []) (M' := M) rfl c_2 ?_
      refine Wp.path (k := 1) [] (C := []) (pc' := 17) (ls' := [some (.inr (.inr (900, i))), some (.inl j)]) (st' := [.inl 0]) (M' := M) rfl trivial ?_
      exact Wp.ret rfl (⟨rfl, by unfold atN; (repeat' split) <;> first | rfl | (exfalso; omega)⟩)
theorem put_900 {i : Nat} {j v : Int} {M : Mm}  : Ev 0 938 [.inr (.inr (900, i)), .inl j, .inl v] M (fun w M' => M' = setA M 900 i (putN 2304 (M.1 900 i) j v) ∧ w = none) := by
  show Wp 0 938 0 [some (.inr (.inr (900, i))), some (.inl j), some (.inl v)] [] M _
  rcases Int.lt_or_le (j) (0) with c_1 | c_1
  ·
    refine Wp.path (k := 2) [1] (C := [j < 0]) (pc' := 14) (ls' := [some (.inr (.inr (900, i))), some (.inl j), some (.inl v)]) (st' := []) (M' := M) rfl c_1 ?_
    exact Wp.ret rfl (⟨putN_out (by omega), rfl⟩)
  ·
    refine Wp.path (k := 2) [0] (C := [0 ≤ j]) (pc' := 4) (ls' := [some (.inr (.inr (900, i))), some (.inl j), some (.inl v)]) (st' := []) (M' := M) rfl c_1 ?_
    rcases Int.lt_or_le (j) (2304) with c_2 | c_2
    ·
      refine Wp.path (k := 4) [0] (C := [j < 2304]) (pc' := 10) (ls' := [some (.inr (.inr (900, i))), some (.inl j), some (.inl v)]) (st' := []) (M' := M) rfl c_2 ?_
      refine Wp.path (k := 4) [] (C := [0 ≤ j ∧ j < 2304]) (pc' := 14) (ls' := [some (.inr (.inr (900, i))), some (.inl j), some (.inl v)]) (st' := []) (M' := setI M 900 i j.toNat v) rfl (show 0 ≤ j ∧ j < 2304 from ⟨by omega, by omega⟩) ?_
      exact Wp.ret rfl (⟨putN_in (by omega) (by omega), rfl⟩)
    ·
      refine Wp.path (k := 4) [1] (C := [2304 ≤ j]) (pc' := 14) (ls' := [some (.inr (.inr (900, i))), some (.inl j), some (.inl v)]) (st' := []) (M' := M) rfl c_2 ?_
      exact Wp.ret rfl (⟨putN_out (by omega), rfl⟩)
theorem at_901 {i : Nat} {j : Int} {M : Mm}  : Ev 0 937 [.inr (.inr (901, i)), .inl j] M (fun v M' => M' = M ∧ v = some (.inl (atN 2304 (M.1 901 i) j))) := by
  show Wp 0 937 0 [some (.inr (.inr (901, i))), some (.inl j)] [] M _
  rcases Int.lt_or_le (j) (0) with c_1 | c_1
  ·
    refine Wp.path (k := 2) [1] (C := [j < 0]) (pc' := 16) (ls' := [some (.inr (.inr (901, i))), some (.inl j)]) (st' := []) (M' := M) rfl c_1 ?_
    refine Wp.path (k := 1) [] (C := []) (pc' := 17) (ls' := [some (.inr (.inr (901, i))), some (.inl j)]) (st' := [.inl 0]) (M' := M) rfl trivial ?_
    exact Wp.ret rfl (⟨rfl, by unfold atN; (repeat' split) <;> first | rfl | (exfalso; omega)⟩)
  ·
    refine Wp.path (k := 2) [0] (C := [0 ≤ j]) (pc' := 4) (ls' := [some (.inr (.inr (901, i))), some (.inl j)]) (st' := []) (M' := M) rfl c_1 ?_
    rcases Int.lt_or_le (j) (2304) with c_2 | c_2
    ·
      refine Wp.path (k := 4) [0] (C := [j < 2304]) (pc' := 10) (ls' := [some (.inr (.inr (901, i))), some (.inl j)]) (st' := []) (M' := M) rfl c_2 ?_
      refine Wp.path (k := 4) [] (C := [0 ≤ j ∧ j < 2304]) (pc' := 17) (ls' := [some (.inr (.inr (901, i))), some (.inl j)]) (st' := [.inl (M.1 901 i j.toNat)]) (M' := M) rfl (show 0 ≤ j ∧ j < 2304 from ⟨by omega, by omega⟩) ?_
      exact Wp.ret rfl (⟨rfl, by unfold atN; (repeat' split) <;> first | rfl | (exfalso; omega)⟩)
    ·
      refine Wp.path (k := 4) [1] (C := [2304 ≤ j]) (pc' := 16) (ls' := [some (.inr (.inr (901, i))), some (.inl j)]) (st' := []) (M' := M) rfl c_2 ?_
      refine Wp.path (k := 1) [] (C := []) (pc' := 17) (ls' := [some (.inr (.inr (901, i))), some (.inl j)]) (st' := [.inl 0]) (M' := M) rfl trivial ?_
      exact Wp.ret rfl (⟨rfl, by unfold atN; (repeat' split) <;> first | rfl | (exfalso; omega)⟩)
theorem put_901 {i : Nat} {j v : Int} {M : Mm}  : Ev 0 938 [.inr (.inr (901, i)), .inl j, .inl v] M (fun w M' => M' = setA M 901 i (putN 2304 (M.1 901 i) j v) ∧ w = none) := by
  show Wp 0 938 0 [some (.inr (.inr (901, i))), some (.inl j), some (.inl v)] [] M _
  rcases Int.lt_or_le (j) (0) with c_1 | c_1
  ·
    refine Wp.path (k := 2) [1] (C := [j < 0]) (pc' := 14) (ls' := [some (.inr (.inr (901, i))), some (.inl j), some (.inl v)]) (st' := []) (M' := M) rfl c_1 ?_
    exact Wp.ret rfl (⟨putN_out (by omega), rfl⟩)
  ·
    refine Wp.path (k := 2) [0] (C := [0 ≤ j]) (pc' := 4) (ls' := [some (.inr (.inr (901, i))), some (.inl j), some (.inl v)]) (st' := []) (M' := M) rfl c_1 ?_
    rcases Int.lt_or_le (j) (2304) with c_2 | c_2
    ·
      refine Wp.path (k := 4) [0] (C := [j < 2304]) (pc' := 10) (ls' := [some (.inr (.inr (901, i))), some (.inl j), some (.inl v)]) (st' := []) (M' := M) rfl c_2 ?_
      refine Wp.path (k := 4) [] (C := [0 ≤ j ∧ j < 2304]) (pc' := 14) (ls' := [some (.inr (.inr (901, i))), some (.inl j), some (.inl v)]) (st' := []) (M' := setI M 901 i j.toNat v) rfl (show 0 ≤ j ∧ j < 2304 from ⟨by omega, by omega⟩) ?_
      exact Wp.ret rfl (⟨putN_in (by omega) (by omega), rfl⟩)
    ·
      refine Wp.path (k := 4) [1] (C := [2304 ≤ j]) (pc' := 14) (ls' := [some (.inr (.inr (901, i))), some (.inl j), some (.inl v)]) (st' := []) (M' := M) rfl c_2 ?_
      exact Wp.ret rfl (⟨putN_out (by omega), rfl⟩)
theorem fill_100 {i : Nat} {v : Int} {M : Mm} : Ev 0 1104 [.inr (.inr (100, i)), .inl v] M (fun w M' => M' = setA M 100 i (upTo (fun _ => v) (M.1 100 i) 340) ∧ w = none) := by
  show Wp 0 1104 0 [some (.inr (.inr (100, i))), some (.inl v), none, none] [] M _
  refine Wp.path (k := 5) [] (C := []) (pc' := 5) (ls' := [some (.inr (.inr (100, i))), some (.inl v), some (.inl ((0 : Nat) : Int)), some (.inl 340)]) (st' := []) (M' := M) rfl trivial ?_
  have key := Wp.for (d := 0) (mi := 1104) (pc := 5) (Q := fun w M' => M' = setA M 100 i (upTo (fun _ => v) (M.1 100 i) 340) ∧ w = none) 340 (fun k => [some (.inr (.inr (100, i))), some (.inl v), some (.inl (k : Int)), some (.inl 340)]) (fun k => setA M 100 i (upTo (fun _ => v) (M.1 100 i) k)) (fun k hk h => ?_) ?_
  · rw [fill_0] at key
    exact key
  · refine Wp.path (k := 9) [0] (C := [(k : Int) < 340, 0 ≤ (k : Int) ∧ (k : Int) < 340, inR ((k : Int) + 1)]) (pc' := 5) (ls' := [some (.inr (.inr (100, i))), some (.inl v), some (.inl ((k : Int) + 1)), some (.inl 340)]) (st' := []) (M' := setI (setA M 100 i (upTo (fun _ => v) (M.1 100 i) k)) 100 i k v) rfl ⟨by omega, ⟨by omega, by omega⟩, show inR ((k : Int) + 1) from by unfold inR; omega⟩ ?_
    rw [fill_step M 100 i k (fun _ => v)]
    exact h
  · refine Wp.path (k := 3) [1] (C := [(340 : Int) ≤ ((340 : Nat) : Int)]) (pc' := 20) (ls' := [some (.inr (.inr (100, i))), some (.inl v), some (.inl ((340 : Nat) : Int)), some (.inl 340)]) (st' := []) (M' := setA M 100 i (upTo (fun _ => v) (M.1 100 i) 340)) rfl (show (340 : Int) ≤ ((340 : Nat) : Int) from by omega) ?_
    exact Wp.ret rfl ⟨rfl, rfl⟩
theorem fill_101 {i : Nat} {v : Int} {M : Mm} : Ev 0 1104 [.inr (.inr (101, i)), .inl v] M (fun w M' => M' = setA M 101 i (upTo (fun _ => v) (M.1 101 i) 340) ∧ w = none) := by
  show Wp 0 1104 0 [some (.inr (.inr (101, i))), some (.inl v), none, none] [] M _
  refine Wp.path (k := 5) [] (C := []) (pc' := 5) (ls' := [some (.inr (.inr (101, i))), some (.inl v), some (.inl ((0 : Nat) : Int)), some (.inl 340)]) (st' := []) (M' := M) rfl trivial ?_
  have key := Wp.for (d := 0) (mi := 1104) (pc := 5) (Q := fun w M' => M' = setA M 101 i (upTo (fun _ => v) (M.1 101 i) 340) ∧ w = none) 340 (fun k => [some (.inr (.inr (101, i))), some (.inl v), some (.inl (k : Int)), some (.inl 340)]) (fun k => setA M 101 i (upTo (fun _ => v) (M.1 101 i) k)) (fun k hk h => ?_) ?_
  · rw [fill_0] at key
    exact key
  · refine Wp.path (k := 9) [0] (C := [(k : Int) < 340, 0 ≤ (k : Int) ∧ (k : Int) < 340, inR ((k : Int) + 1)]) (pc' := 5) (ls' := [some (.inr (.inr (101, i))), some (.inl v), some (.inl ((k : Int) + 1)), some (.inl 340)]) (st' := []) (M' := setI (setA M 101 i (upTo (fun _ => v) (M.1 101 i) k)) 101 i k v) rfl ⟨by omega, ⟨by omega, by omega⟩, show inR ((k : Int) + 1) from by unfold inR; omega⟩ ?_
    rw [fill_step M 101 i k (fun _ => v)]
    exact h
  · refine Wp.path (k := 3) [1] (C := [(340 : Int) ≤ ((340 : Nat) : Int)]) (pc' := 20) (ls' := [some (.inr (.inr (101, i))), some (.inl v), some (.inl ((340 : Nat) : Int)), some (.inl 340)]) (st' := []) (M' := setA M 101 i (upTo (fun _ => v) (M.1 101 i) 340)) rfl (show (340 : Int) ≤ ((340 : Nat) : Int) from by omega) ?_
    exact Wp.ret rfl ⟨rfl, rfl⟩
theorem fill_102 {i : Nat} {v : Int} {M : Mm} : Ev 0 1104 [.inr (.inr (102, i)), .inl v] M (fun w M' => M' = setA M 102 i (upTo (fun _ => v) (M.1 102 i) 340) ∧ w = none) := by
  show Wp 0 1104 0 [some (.inr (.inr (102, i))), some (.inl v), none, none] [] M _
  refine Wp.path (k := 5) [] (C := []) (pc' := 5) (ls' := [some (.inr (.inr (102, i))), some (.inl v), some (.inl ((0 : Nat) : Int)), some (.inl 340)]) (st' := []) (M' := M) rfl trivial ?_
  have key := Wp.for (d := 0) (mi := 1104) (pc := 5) (Q := fun w M' => M' = setA M 102 i (upTo (fun _ => v) (M.1 102 i) 340) ∧ w = none) 340 (fun k => [some (.inr (.inr (102, i))), some (.inl v), some (.inl (k : Int)), some (.inl 340)]) (fun k => setA M 102 i (upTo (fun _ => v) (M.1 102 i) k)) (fun k hk h => ?_) ?_
  · rw [fill_0] at key
    exact key
  · refine Wp.path (k := 9) [0] (C := [(k : Int) < 340, 0 ≤ (k : Int) ∧ (k : Int) < 340, inR ((k : Int) + 1)]) (pc' := 5) (ls' := [some (.inr (.inr (102, i))), some (.inl v), some (.inl ((k : Int) + 1)), some (.inl 340)]) (st' := []) (M' := setI (setA M 102 i (upTo (fun _ => v) (M.1 102 i) k)) 102 i k v) rfl ⟨by omega, ⟨by omega, by omega⟩, show inR ((k : Int) + 1) from by unfold inR; omega⟩ ?_
    rw [fill_step M 102 i k (fun _ => v)]
    exact h
  · refine Wp.path (k := 3) [1] (C := [(340 : Int) ≤ ((340 : Nat) : Int)]) (pc' := 20) (ls' := [some (.inr (.inr (102, i))), some (.inl v), some (.inl ((340 : Nat) : Int)), some (.inl 340)]) (st' := []) (M' := setA M 102 i (upTo (fun _ => v) (M.1 102 i) 340)) rfl (show (340 : Int) ≤ ((340 : Nat) : Int) from by omega) ?_
    exact Wp.ret rfl ⟨rfl, rfl⟩
theorem fill_103 {i : Nat} {v : Int} {M : Mm} : Ev 0 1104 [.inr (.inr (103, i)), .inl v] M (fun w M' => M' = setA M 103 i (upTo (fun _ => v) (M.1 103 i) 340) ∧ w = none) := by
  show Wp 0 1104 0 [some (.inr (.inr (103, i))), some (.inl v), none, none] [] M _
  refine Wp.path (k := 5) [] (C := []) (pc' := 5) (ls' := [some (.inr (.inr (103, i))), some (.inl v), some (.inl ((0 : Nat) : Int)), some (.inl 340)]) (st' := []) (M' := M) rfl trivial ?_
  have key := Wp.for (d := 0) (mi := 1104) (pc := 5) (Q := fun w M' => M' = setA M 103 i (upTo (fun _ => v) (M.1 103 i) 340) ∧ w = none) 340 (fun k => [some (.inr (.inr (103, i))), some (.inl v), some (.inl (k : Int)), some (.inl 340)]) (fun k => setA M 103 i (upTo (fun _ => v) (M.1 103 i) k)) (fun k hk h => ?_) ?_
  · rw [fill_0] at key
    exact key
  · refine Wp.path (k := 9) [0] (C := [(k : Int) < 340, 0 ≤ (k : Int) ∧ (k : Int) < 340, inR ((k : Int) + 1)]) (pc' := 5) (ls' := [some (.inr (.inr (103, i))), some (.inl v), some (.inl ((k : Int) + 1)), some (.inl 340)]) (st' := []) (M' := setI (setA M 103 i (upTo (fun _ => v) (M.1 103 i) k)) 103 i k v) rfl ⟨by omega, ⟨by omega, by omega⟩, show inR ((k : Int) + 1) from by unfold inR; omega⟩ ?_
    rw [fill_step M 103 i k (fun _ => v)]
    exact h
  · refine Wp.path (k := 3) [1] (C := [(340 : Int) ≤ ((340 : Nat) : Int)]) (pc' := 20) (ls' := [some (.inr (.inr (103, i))), some (.inl v), some (.inl ((340 : Nat) : Int)), some (.inl 340)]) (st' := []) (M' := setA M 103 i (upTo (fun _ => v) (M.1 103 i) 340)) rfl (show (340 : Int) ≤ ((340 : Nat) : Int) from by omega) ?_
    exact Wp.ret rfl ⟨rfl, rfl⟩
theorem fill_104 {i : Nat} {v : Int} {M : Mm} : Ev 0 1104 [.inr (.inr (104, i)), .inl v] M (fun w M' => M' = setA M 104 i (upTo (fun _ => v) (M.1 104 i) 340) ∧ w = none) := by
  show Wp 0 1104 0 [some (.inr (.inr (104, i))), some (.inl v), none, none] [] M _
  refine Wp.path (k := 5) [] (C := []) (pc' := 5) (ls' := [some (.inr (.inr (104, i))), some (.inl v), some (.inl ((0 : Nat) : Int)), some (.inl 340)]) (st' := []) (M' := M) rfl trivial ?_
  have key := Wp.for (d := 0) (mi := 1104) (pc := 5) (Q := fun w M' => M' = setA M 104 i (upTo (fun _ => v) (M.1 104 i) 340) ∧ w = none) 340 (fun k => [some (.inr (.inr (104, i))), some (.inl v), some (.inl (k : Int)), some (.inl 340)]) (fun k => setA M 104 i (upTo (fun _ => v) (M.1 104 i) k)) (fun k hk h => ?_) ?_
  · rw [fill_0] at key
    exact key
  · refine Wp.path (k := 9) [0] (C := [(k : Int) < 340, 0 ≤ (k : Int) ∧ (k : Int) < 340, inR ((k : Int) + 1)]) (pc' := 5) (ls' := [some (.inr (.inr (104, i))), some (.inl v), some (.inl ((k : Int) + 1)), some (.inl 340)]) (st' := []) (M' := setI (setA M 104 i (upTo (fun _ => v) (M.1 104 i) k)) 104 i k v) rfl ⟨by omega, ⟨by omega, by omega⟩, show inR ((k : Int) + 1) from by unfold inR; omega⟩ ?_
    rw [fill_step M 104 i k (fun _ => v)]
    exact h
  · refine Wp.path (k := 3) [1] (C := [(340 : Int) ≤ ((340 : Nat) : Int)]) (pc' := 20) (ls' := [some (.inr (.inr (104, i))), some (.inl v), some (.inl ((340 : Nat) : Int)), some (.inl 340)]) (st' := []) (M' := setA M 104 i (upTo (fun _ => v) (M.1 104 i) 340)) rfl (show (340 : Int) ≤ ((340 : Nat) : Int) from by omega) ?_
    exact Wp.ret rfl ⟨rfl, rfl⟩
theorem fill_105 {i : Nat} {v : Int} {M : Mm} : Ev 0 1104 [.inr (.inr (105, i)), .inl v] M (fun w M' => M' = setA M 105 i (upTo (fun _ => v) (M.1 105 i) 53) ∧ w = none) := by
  show Wp 0 1104 0 [some (.inr (.inr (105, i))), some (.inl v), none, none] [] M _
  refine Wp.path (k := 5) [] (C := []) (pc' := 5) (ls' := [some (.inr (.inr (105, i))), some (.inl v), some (.inl ((0 : Nat) : Int)), some (.inl 53)]) (st' := []) (M' := M) rfl trivial ?_
  have key := Wp.for (d := 0) (mi := 1104) (pc := 5) (Q := fun w M' => M' = setA M 105 i (upTo (fun _ => v) (M.1 105 i) 53) ∧ w = none) 53 (fun k => [some (.inr (.inr (105, i))), some (.inl v), some (.inl (k : Int)), some (.inl 53)]) (fun k => setA M 105 i (upTo (fun _ => v) (M.1 105 i) k)) (fun k hk h => ?_) ?_
  · rw [fill_0] at key
    exact key
  · refine Wp.path (k := 9) [0] (C := [(k : Int) < 53, 0 ≤ (k : Int) ∧ (k : Int) < 53, inR ((k : Int) + 1)]) (pc' := 5) (ls' := [some (.inr (.inr (105, i))), some (.inl v), some (.inl ((k : Int) + 1)), some (.inl 53)]) (st' := []) (M' := setI (setA M 105 i (upTo (fun _ => v) (M.1 105 i) k)) 105 i k v) rfl ⟨by omega, ⟨by omega, by omega⟩, show inR ((k : Int) + 1) from by unfold inR; omega⟩ ?_
    rw [fill_step M 105 i k (fun _ => v)]
    exact h
  · refine Wp.path (k := 3) [1] (C := [(53 : Int) ≤ ((53 : Nat) : Int)]) (pc' := 20) (ls' := [some (.inr (.inr (105, i))), some (.inl v), some (.inl ((53 : Nat) : Int)), some (.inl 53)]) (st' := []) (M' := setA M 105 i (upTo (fun _ => v) (M.1 105 i) 53)) rfl (show (53 : Int) ≤ ((53 : Nat) : Int) from by omega) ?_
    exact Wp.ret rfl ⟨rfl, rfl⟩
theorem fill_106 {i : Nat} {v : Int} {M : Mm} : Ev 0 1104 [.inr (.inr (106, i)), .inl v] M (fun w M' => M' = setA M 106 i (upTo (fun _ => v) (M.1 106 i) 52) ∧ w = none) := by
  show Wp 0 1104 0 [some (.inr (.inr (106, i))), some (.inl v), none, none] [] M _
  refine Wp.path (k := 5) [] (C := []) (pc' := 5) (ls' := [some (.inr (.inr (106, i))), some (.inl v), some (.inl ((0 : Nat) : Int)), some (.inl 52)]) (st' := []) (M' := M) rfl trivial ?_
  have key := Wp.for (d := 0) (mi := 1104) (pc := 5) (Q := fun w M' => M' = setA M 106 i (upTo (fun _ => v) (M.1 106 i) 52) ∧ w = none) 52 (fun k => [some (.inr (.inr (106, i))), some (.inl v), some (.inl (k : Int)), some (.inl 52)]) (fun k => setA M 106 i (upTo (fun _ => v) (M.1 106 i) k)) (fun k hk h => ?_) ?_
  · rw [fill_0] at key
    exact key
  · refine Wp.path (k := 9) [0] (C := [(k : Int) < 52, 0 ≤ (k : Int) ∧ (k : Int) < 52, inR ((k : Int) + 1)]) (pc' := 5) (ls' := [some (.inr (.inr (106, i))), some (.inl v), some (.inl ((k : Int) + 1)), some (.inl 52)]) (st' := []) (M' := setI (setA M 106 i (upTo (fun _ => v) (M.1 106 i) k)) 106 i k v) rfl ⟨by omega, ⟨by omega, by omega⟩, show inR ((k : Int) + 1) from by unfold inR; omega⟩ ?_
    rw [fill_step M 106 i k (fun _ => v)]
    exact h
  · refine Wp.path (k := 3) [1] (C := [(52 : Int) ≤ ((52 : Nat) : Int)]) (pc' := 20) (ls' := [some (.inr (.inr (106, i))), some (.inl v), some (.inl ((52 : Nat) : Int)), some (.inl 52)]) (st' := []) (M' := setA M 106 i (upTo (fun _ => v) (M.1 106 i) 52)) rfl (show (52 : Int) ≤ ((52 : Nat) : Int) from by omega) ?_
    exact Wp.ret rfl ⟨rfl, rfl⟩
theorem fill_107 {i : Nat} {v : Int} {M : Mm} : Ev 0 1104 [.inr (.inr (107, i)), .inl v] M (fun w M' => M' = setA M 107 i (upTo (fun _ => v) (M.1 107 i) 52) ∧ w = none) := by
  show Wp 0 1104 0 [some (.inr (.inr (107, i))), some (.inl v), none, none] [] M _
  refine Wp.path (k := 5) [] (C := []) (pc' := 5) (ls' := [some (.inr (.inr (107, i))), some (.inl v), some (.inl ((0 : Nat) : Int)), some (.inl 52)]) (st' := []) (M' := M) rfl trivial ?_
  have key := Wp.for (d := 0) (mi := 1104) (pc := 5) (Q := fun w M' => M' = setA M 107 i (upTo (fun _ => v) (M.1 107 i) 52) ∧ w = none) 52 (fun k => [some (.inr (.inr (107, i))), some (.inl v), some (.inl (k : Int)), some (.inl 52)]) (fun k => setA M 107 i (upTo (fun _ => v) (M.1 107 i) k)) (fun k hk h => ?_) ?_
  · rw [fill_0] at key
    exact key
  · refine Wp.path (k := 9) [0] (C := [(k : Int) < 52, 0 ≤ (k : Int) ∧ (k : Int) < 52, inR ((k : Int) + 1)]) (pc' := 5) (ls' := [some (.inr (.inr (107, i))), some (.inl v), some (.inl ((k : Int) + 1)), some (.inl 52)]) (st' := []) (M' := setI (setA M 107 i (upTo (fun _ => v) (M.1 107 i) k)) 107 i k v) rfl ⟨by omega, ⟨by omega, by omega⟩, show inR ((k : Int) + 1) from by unfold inR; omega⟩ ?_
    rw [fill_step M 107 i k (fun _ => v)]
    exact h
  · refine Wp.path (k := 3) [1] (C := [(52 : Int) ≤ ((52 : Nat) : Int)]) (pc' := 20) (ls' := [some (.inr (.inr (107, i))), some (.inl v), some (.inl ((52 : Nat) : Int)), some (.inl 52)]) (st' := []) (M' := setA M 107 i (upTo (fun _ => v) (M.1 107 i) 52)) rfl (show (52 : Int) ≤ ((52 : Nat) : Int) from by omega) ?_
    exact Wp.ret rfl ⟨rfl, rfl⟩
theorem fill_200 {i : Nat} {v : Int} {M : Mm} : Ev 0 1104 [.inr (.inr (200, i)), .inl v] M (fun w M' => M' = setA M 200 i (upTo (fun _ => v) (M.1 200 i) 108) ∧ w = none) := by
  show Wp 0 1104 0 [some (.inr (.inr (200, i))), some (.inl v), none, none] [] M _
  refine Wp.path (k := 5) [] (C := []) (pc' := 5) (ls' := [some (.inr (.inr (200, i))), some (.inl v), some (.inl ((0 : Nat) : Int)), some (.inl 108)]) (st' := []) (M' := M) rfl trivial ?_
  have key := Wp.for (d := 0) (mi := 1104) (pc := 5) (Q := fun w M' => M' = setA M 200 i (upTo (fun _ => v) (M.1 200 i) 108) ∧ w = none) 108 (fun k => [some (.inr (.inr (200, i))), some (.inl v), some (.inl (k : Int)), some (.inl 108)]) (fun k => setA M 200 i (upTo (fun _ => v) (M.1 200 i) k)) (fun k hk h => ?_) ?_
  · rw [fill_0] at key
    exact key
  · refine Wp.path (k := 9) [0] (C := [(k : Int) < 108, 0 ≤ (k : Int) ∧ (k : Int) < 108, inR ((k : Int) + 1)]) (pc' := 5) (ls' := [some (.inr (.inr (200, i))), some (.inl v), some (.inl ((k : Int) + 1)), some (.inl 108)]) (st' := []) (M' := setI (setA M 200 i (upTo (fun _ => v) (M.1 200 i) k)) 200 i k v) rfl ⟨by omega, ⟨by omega, by omega⟩, show inR ((k : Int) + 1) from by unfold inR; omega⟩ ?_
    rw [fill_step M 200 i k (fun _ => v)]
    exact h
  · refine Wp.path (k := 3) [1] (C := [(108 : Int) ≤ ((108 : Nat) : Int)]) (pc' := 20) (ls' := [some (.inr (.inr (200, i))), some (.inl v), some (.inl ((108 : Nat) : Int)), some (.inl 108)]) (st' := []) (M' := setA M 200 i (upTo (fun _ => v) (M.1 200 i) 108)) rfl (show (108 : Int) ≤ ((108 : Nat) : Int) from by omega) ?_
    exact Wp.ret rfl ⟨rfl, rfl⟩
theorem fill_300 {i : Nat} {v : Int} {M : Mm} : Ev 0 1104 [.inr (.inr (300, i)), .inl v] M (fun w M' => M' = setA M 300 i (upTo (fun _ => v) (M.1 300 i) 96) ∧ w = none) := by
  show Wp 0 1104 0 [some (.inr (.inr (300, i))), some (.inl v), none, none] [] M _
  refine Wp.path (k := 5) [] (C := []) (pc' := 5) (ls' := [some (.inr (.inr (300, i))), some (.inl v), some (.inl ((0 : Nat) : Int)), some (.inl 96)]) (st' := []) (M' := M) rfl trivial ?_
  have key := Wp.for (d := 0) (mi := 1104) (pc := 5) (Q := fun w M' => M' = setA M 300 i (upTo (fun _ => v) (M.1 300 i) 96) ∧ w = none) 96 (fun k => [some (.inr (.inr (300, i))), some (.inl v), some (.inl (k : Int)), some (.inl 96)]) (fun k => setA M 300 i (upTo (fun _ => v) (M.1 300 i) k)) (fun k hk h => ?_) ?_
  · rw [fill_0] at key
    exact key
  · refine Wp.path (k := 9) [0] (C := [(k : Int) < 96, 0 ≤ (k : Int) ∧ (k : Int) < 96, inR ((k : Int) + 1)]) (pc' := 5) (ls' := [some (.inr (.inr (300, i))), some (.inl v), some (.inl ((k : Int) + 1)), some (.inl 96)]) (st' := []) (M' := setI (setA M 300 i (upTo (fun _ => v) (M.1 300 i) k)) 300 i k v) rfl ⟨by omega, ⟨by omega, by omega⟩, show inR ((k : Int) + 1) from by unfold inR; omega⟩ ?_
    rw [fill_step M 300 i k (fun _ => v)]
    exact h
  · refine Wp.path (k := 3) [1] (C := [(96 : Int) ≤ ((96 : Nat) : Int)]) (pc' := 20) (ls' := [some (.inr (.inr (300, i))), some (.inl v), some (.inl ((96 : Nat) : Int)), some (.inl 96)]) (st' := []) (M' := setA M 300 i (upTo (fun _ => v) (M.1 300 i) 96)) rfl (show (96 : Int) ≤ ((96 : Nat) : Int) from by omega) ?_
    exact Wp.ret rfl ⟨rfl, rfl⟩
theorem fill_301 {i : Nat} {v : Int} {M : Mm} : Ev 0 1104 [.inr (.inr (301, i)), .inl v] M (fun w M' => M' = setA M 301 i (upTo (fun _ => v) (M.1 301 i) 96) ∧ w = none) := by
  show Wp 0 1104 0 [some (.inr (.inr (301, i))), some (.inl v), none, none] [] M _
  refine Wp.path (k := 5) [] (C := []) (pc' := 5) (ls' := [some (.inr (.inr (301, i))), some (.inl v), some (.inl ((0 : Nat) : Int)), some (.inl 96)]) (st' := []) (M' := M) rfl trivial ?_
  have key := Wp.for (d := 0) (mi := 1104) (pc := 5) (Q := fun w M' => M' = setA M 301 i (upTo (fun _ => v) (M.1 301 i) 96) ∧ w = none) 96 (fun k => [some (.inr (.inr (301, i))), some (.inl v), some (.inl (k : Int)), some (.inl 96)]) (fun k => setA M 301 i (upTo (fun _ => v) (M.1 301 i) k)) (fun k hk h => ?_) ?_
  · rw [fill_0] at key
    exact key
  · refine Wp.path (k := 9) [0] (C := [(k : Int) < 96, 0 ≤ (k : Int) ∧ (k : Int) < 96, inR ((k : Int) + 1)]) (pc' := 5) (ls' := [some (.inr (.inr (301, i))), some (.inl v), some (.inl ((k : Int) + 1)), some (.inl 96)]) (st' := []) (M' := setI (setA M 301 i (upTo (fun _ => v) (M.1 301 i) k)) 301 i k v) rfl ⟨by omega, ⟨by omega, by omega⟩, show inR ((k : Int) + 1) from by unfold inR; omega⟩ ?_
    rw [fill_step M 301 i k (fun _ => v)]
    exact h
  · refine Wp.path (k := 3) [1] (C := [(96 : Int) ≤ ((96 : Nat) : Int)]) (pc' := 20) (ls' := [some (.inr (.inr (301, i))), some (.inl v), some (.inl ((96 : Nat) : Int)), some (.inl 96)]) (st' := []) (M' := setA M 301 i (upTo (fun _ => v) (M.1 301 i) 96)) rfl (show (96 : Int) ≤ ((96 : Nat) : Int) from by omega) ?_
    exact Wp.ret rfl ⟨rfl, rfl⟩
theorem fill_302 {i : Nat} {v : Int} {M : Mm} : Ev 0 1104 [.inr (.inr (302, i)), .inl v] M (fun w M' => M' = setA M 302 i (upTo (fun _ => v) (M.1 302 i) 96) ∧ w = none) := by
  show Wp 0 1104 0 [some (.inr (.inr (302, i))), some (.inl v), none, none] [] M _
  refine Wp.path (k := 5) [] (C := []) (pc' := 5) (ls' := [some (.inr (.inr (302, i))), some (.inl v), some (.inl ((0 : Nat) : Int)), some (.inl 96)]) (st' := []) (M' := M) rfl trivial ?_
  have key := Wp.for (d := 0) (mi := 1104) (pc := 5) (Q := fun w M' => M' = setA M 302 i (upTo (fun _ => v) (M.1 302 i) 96) ∧ w = none) 96 (fun k => [some (.inr (.inr (302, i))), some (.inl v), some (.inl (k : Int)), some (.inl 96)]) (fun k => setA M 302 i (upTo (fun _ => v) (M.1 302 i) k)) (fun k hk h => ?_) ?_
  · rw [fill_0] at key
    exact key
  · refine Wp.path (k := 9) [0] (C := [(k : Int) < 96, 0 ≤ (k : Int) ∧ (k : Int) < 96, inR ((k : Int) + 1)]) (pc' := 5) (ls' := [some (.inr (.inr (302, i))), some (.inl v), some (.inl ((k : Int) + 1)), some (.inl 96)]) (st' := []) (M' := setI (setA M 302 i (upTo (fun _ => v) (M.1 302 i) k)) 302 i k v) rfl ⟨by omega, ⟨by omega, by omega⟩, show inR ((k : Int) + 1) from by unfold inR; omega⟩ ?_
    rw [fill_step M 302 i k (fun _ => v)]
    exact h
  · refine Wp.path (k := 3) [1] (C := [(96 : Int) ≤ ((96 : Nat) : Int)]) (pc' := 20) (ls' := [some (.inr (.inr (302, i))), some (.inl v), some (.inl ((96 : Nat) : Int)), some (.inl 96)]) (st' := []) (M' := setA M 302 i (upTo (fun _ => v) (M.1 302 i) 96)) rfl (show (96 : Int) ≤ ((96 : Nat) : Int) from by omega) ?_
    exact Wp.ret rfl ⟨rfl, rfl⟩
theorem fill_303 {i : Nat} {v : Int} {M : Mm} : Ev 0 1104 [.inr (.inr (303, i)), .inl v] M (fun w M' => M' = setA M 303 i (upTo (fun _ => v) (M.1 303 i) 96) ∧ w = none) := by
  show Wp 0 1104 0 [some (.inr (.inr (303, i))), some (.inl v), none, none] [] M _
  refine Wp.path (k := 5) [] (C := []) (pc' := 5) (ls' := [some (.inr (.inr (303, i))), some (.inl v), some (.inl ((0 : Nat) : Int)), some (.inl 96)]) (st' := []) (M' := M) rfl trivial ?_
  have key := Wp.for (d := 0) (mi := 1104) (pc := 5) (Q := fun w M' => M' = setA M 303 i (upTo (fun _ => v) (M.1 303 i) 96) ∧ w = none) 96 (fun k => [some (.inr (.inr (303, i))), some (.inl v), some (.inl (k : Int)), some (.inl 96)]) (fun k => setA M 303 i (upTo (fun _ => v) (M.1 303 i) k)) (fun k hk h => ?_) ?_
  · rw [fill_0] at key
    exact key
  · refine Wp.path (k := 9) [0] (C := [(k : Int) < 96, 0 ≤ (k : Int) ∧ (k : Int) < 96, inR ((k : Int) + 1)]) (pc' := 5) (ls' := [some (.inr (.inr (303, i))), some (.inl v), some (.inl ((k : Int) + 1)), some (.inl 96)]) (st' := []) (M' := setI (setA M 303 i (upTo (fun _ => v) (M.1 303 i) k)) 303 i k v) rfl ⟨by omega, ⟨by omega, by omega⟩, show inR ((k : Int) + 1) from by unfold inR; omega⟩ ?_
    rw [fill_step M 303 i k (fun _ => v)]
    exact h
  · refine Wp.path (k := 3) [1] (C := [(96 : Int) ≤ ((96 : Nat) : Int)]) (pc' := 20) (ls' := [some (.inr (.inr (303, i))), some (.inl v), some (.inl ((96 : Nat) : Int)), some (.inl 96)]) (st' := []) (M' := setA M 303 i (upTo (fun _ => v) (M.1 303 i) 96)) rfl (show (96 : Int) ≤ ((96 : Nat) : Int) from by omega) ?_
    exact Wp.ret rfl ⟨rfl, rfl⟩
theorem fill_304 {i : Nat} {v : Int} {M : Mm} : Ev 0 1104 [.inr (.inr (304, i)), .inl v] M (fun w M' => M' = setA M 304 i (upTo (fun _ => v) (M.1 304 i) 96) ∧ w = none) := by
  show Wp 0 1104 0 [some (.inr (.inr (304, i))), some (.inl v), none, none] [] M _
  refine Wp.path (k := 5) [] (C := []) (pc' := 5) (ls' := [some (.inr (.inr (304, i))), some (.inl v), some (.inl ((0 : Nat) : Int)), some (.inl 96)]) (st' := []) (M' := M) rfl trivial ?_
  have key := Wp.for (d := 0) (mi := 1104) (pc := 5) (Q := fun w M' => M' = setA M 304 i (upTo (fun _ => v) (M.1 304 i) 96) ∧ w = none) 96 (fun k => [some (.inr (.inr (304, i))), some (.inl v), some (.inl (k : Int)), some (.inl 96)]) (fun k => setA M 304 i (upTo (fun _ => v) (M.1 304 i) k)) (fun k hk h => ?_) ?_
  · rw [fill_0] at key
    exact key
  · refine Wp.path (k := 9) [0] (C := [(k : Int) < 96, 0 ≤ (k : Int) ∧ (k : Int) < 96, inR ((k : Int) + 1)]) (pc' := 5) (ls' := [some (.inr (.inr (304, i))), some (.inl v), some (.inl ((k : Int) + 1)), some (.inl 96)]) (st' := []) (M' := setI (setA M 304 i (upTo (fun _ => v) (M.1 304 i) k)) 304 i k v) rfl ⟨by omega, ⟨by omega, by omega⟩, show inR ((k : Int) + 1) from by unfold inR; omega⟩ ?_
    rw [fill_step M 304 i k (fun _ => v)]
    exact h
  · refine Wp.path (k := 3) [1] (C := [(96 : Int) ≤ ((96 : Nat) : Int)]) (pc' := 20) (ls' := [some (.inr (.inr (304, i))), some (.inl v), some (.inl ((96 : Nat) : Int)), some (.inl 96)]) (st' := []) (M' := setA M 304 i (upTo (fun _ => v) (M.1 304 i) 96)) rfl (show (96 : Int) ≤ ((96 : Nat) : Int) from by omega) ?_
    exact Wp.ret rfl ⟨rfl, rfl⟩
theorem fill_305 {i : Nat} {v : Int} {M : Mm} : Ev 0 1104 [.inr (.inr (305, i)), .inl v] M (fun w M' => M' = setA M 305 i (upTo (fun _ => v) (M.1 305 i) 340) ∧ w = none) := by
  show Wp 0 1104 0 [some (.inr (.inr (305, i))), some (.inl v), none, none] [] M _
  refine Wp.path (k := 5) [] (C := []) (pc' := 5) (ls' := [some (.inr (.inr (305, i))), some (.inl v), some (.inl ((0 : Nat) : Int)), some (.inl 340)]) (st' := []) (M' := M) rfl trivial ?_
  have key := Wp.for (d := 0) (mi := 1104) (pc := 5) (Q := fun w M' => M' = setA M 305 i (upTo (fun _ => v) (M.1 305 i) 340) ∧ w = none) 340 (fun k => [some (.inr (.inr (305, i))), some (.inl v), some (.inl (k : Int)), some (.inl 340)]) (fun k => setA M 305 i (upTo (fun _ => v) (M.1 305 i) k)) (fun k hk h => ?_) ?_
  · rw [fill_0] at key
    exact key
  · refine Wp.path (k := 9) [0] (C := [(k : Int) < 340, 0 ≤ (k : Int) ∧ (k : Int) < 340, inR ((k : Int) + 1)]) (pc' := 5) (ls' := [some (.inr (.inr (305, i))), some (.inl v), some (.inl ((k : Int) + 1)), some (.inl 340)]) (st' := []) (M' := setI (setA M 305 i (upTo (fun _ => v) (M.1 305 i) k)) 305 i k v) rfl ⟨by omega, ⟨by omega, by omega⟩, show inR ((k : Int) + 1) from by unfold inR; omega⟩ ?_
    rw [fill_step M 305 i k (fun _ => v)]
    exact h
  · refine Wp.path (k := 3) [1] (C := [(340 : Int) ≤ ((340 : Nat) : Int)]) (pc' := 20) (ls' := [some (.inr (.inr (305, i))), some (.inl v), some (.inl ((340 : Nat) : Int)), some (.inl 340)]) (st' := []) (M' := setA M 305 i (upTo (fun _ => v) (M.1 305 i) 340)) rfl (show (340 : Int) ≤ ((340 : Nat) : Int) from by omega) ?_
    exact Wp.ret rfl ⟨rfl, rfl⟩
theorem fill_306 {i : Nat} {v : Int} {M : Mm} : Ev 0 1104 [.inr (.inr (306, i)), .inl v] M (fun w M' => M' = setA M 306 i (upTo (fun _ => v) (M.1 306 i) 340) ∧ w = none) := by
  show Wp 0 1104 0 [some (.inr (.inr (306, i))), some (.inl v), none, none] [] M _
  refine Wp.path (k := 5) [] (C := []) (pc' := 5) (ls' := [some (.inr (.inr (306, i))), some (.inl v), some (.inl ((0 : Nat) : Int)), some (.inl 340)]) (st' := []) (M' := M) rfl trivial ?_
  have key := Wp.for (d := 0) (mi := 1104) (pc := 5) (Q := fun w M' => M' = setA M 306 i (upTo (fun _ => v) (M.1 306 i) 340) ∧ w = none) 340 (fun k => [some (.inr (.inr (306, i))), some (.inl v), some (.inl (k : Int)), some (.inl 340)]) (fun k => setA M 306 i (upTo (fun _ => v) (M.1 306 i) k)) (fun k hk h => ?_) ?_
  · rw [fill_0] at key
    exact key
  · refine Wp.path (k := 9) [0] (C := [(k : Int) < 340, 0 ≤ (k : Int) ∧ (k : Int) < 340, inR ((k : Int) + 1)]) (pc' := 5) (ls' := [some (.inr (.inr (306, i))), some (.inl v), some (.inl ((k : Int) + 1)), some (.inl 340)]) (st' := []) (M' := setI (setA M 306 i (upTo (fun _ => v) (M.1 306 i) k)) 306 i k v) rfl ⟨by omega, ⟨by omega, by omega⟩, show inR ((k : Int) + 1) from by unfold inR; omega⟩ ?_
    rw [fill_step M 306 i k (fun _ => v)]
    exact h
  · refine Wp.path (k := 3) [1] (C := [(340 : Int) ≤ ((340 : Nat) : Int)]) (pc' := 20) (ls' := [some (.inr (.inr (306, i))), some (.inl v), some (.inl ((340 : Nat) : Int)), some (.inl 340)]) (st' := []) (M' := setA M 306 i (upTo (fun _ => v) (M.1 306 i) 340)) rfl (show (340 : Int) ≤ ((340 : Nat) : Int) from by omega) ?_
    exact Wp.ret rfl ⟨rfl, rfl⟩
theorem fill_307 {i : Nat} {v : Int} {M : Mm} : Ev 0 1104 [.inr (.inr (307, i)), .inl v] M (fun w M' => M' = setA M 307 i (upTo (fun _ => v) (M.1 307 i) 340) ∧ w = none) := by
  show Wp 0 1104 0 [some (.inr (.inr (307, i))), some (.inl v), none, none] [] M _
  refine Wp.path (k := 5) [] (C := []) (pc' := 5) (ls' := [some (.inr (.inr (307, i))), some (.inl v), some (.inl ((0 : Nat) : Int)), some (.inl 340)]) (st' := []) (M' := M) rfl trivial ?_
  have key := Wp.for (d := 0) (mi := 1104) (pc := 5) (Q := fun w M' => M' = setA M 307 i (upTo (fun _ => v) (M.1 307 i) 340) ∧ w = none) 340 (fun k => [some (.inr (.inr (307, i))), some (.inl v), some (.inl (k : Int)), some (.inl 340)]) (fun k => setA M 307 i (upTo (fun _ => v) (M.1 307 i) k)) (fun k hk h => ?_) ?_
  · rw [fill_0] at key
    exact key
  · refine Wp.path (k := 9) [0] (C := [(k : Int) < 340, 0 ≤ (k : Int) ∧ (k : Int) < 340, inR ((k : Int) + 1)]) (pc' := 5) (ls' := [some (.inr (.inr (307, i))), some (.inl v), some (.inl ((k : Int) + 1)), some (.inl 340)]) (st' := []) (M' := setI (setA M 307 i (upTo (fun _ => v) (M.1 307 i) k)) 307 i k v) rfl ⟨by omega, ⟨by omega, by omega⟩, show inR ((k : Int) + 1) from by unfold inR; omega⟩ ?_
    rw [fill_step M 307 i k (fun _ => v)]
    exact h
  · refine Wp.path (k := 3) [1] (C := [(340 : Int) ≤ ((340 : Nat) : Int)]) (pc' := 20) (ls' := [some (.inr (.inr (307, i))), some (.inl v), some (.inl ((340 : Nat) : Int)), some (.inl 340)]) (st' := []) (M' := setA M 307 i (upTo (fun _ => v) (M.1 307 i) 340)) rfl (show (340 : Int) ≤ ((340 : Nat) : Int) from by omega) ?_
    exact Wp.ret rfl ⟨rfl, rfl⟩
theorem fill_308 {i : Nat} {v : Int} {M : Mm} : Ev 0 1104 [.inr (.inr (308, i)), .inl v] M (fun w M' => M' = setA M 308 i (upTo (fun _ => v) (M.1 308 i) 340) ∧ w = none) := by
  show Wp 0 1104 0 [some (.inr (.inr (308, i))), some (.inl v), none, none] [] M _
  refine Wp.path (k := 5) [] (C := []) (pc' := 5) (ls' := [some (.inr (.inr (308, i))), some (.inl v), some (.inl ((0 : Nat) : Int)), some (.inl 340)]) (st' := []) (M' := M) rfl trivial ?_
  have key := Wp.for (d := 0) (mi := 1104) (pc := 5) (Q := fun w M' => M' = setA M 308 i (upTo (fun _ => v) (M.1 308 i) 340) ∧ w = none) 340 (fun k => [some (.inr (.inr (308, i))), some (.inl v), some (.inl (k : Int)), some (.inl 340)]) (fun k => setA M 308 i (upTo (fun _ => v) (M.1 308 i) k)) (fun k hk h => ?_) ?_
  · rw [fill_0] at key
    exact key
  · refine Wp.path (k := 9) [0] (C := [(k : Int) < 340, 0 ≤ (k : Int) ∧ (k : Int) < 340, inR ((k : Int) + 1)]) (pc' := 5) (ls' := [some (.inr (.inr (308, i))), some (.inl v), some (.inl ((k : Int) + 1)), some (.inl 340)]) (st' := []) (M' := setI (setA M 308 i (upTo (fun _ => v) (M.1 308 i) k)) 308 i k v) rfl ⟨by omega, ⟨by omega, by omega⟩, show inR ((k : Int) + 1) from by unfold inR; omega⟩ ?_
    rw [fill_step M 308 i k (fun _ => v)]
    exact h
  · refine Wp.path (k := 3) [1] (C := [(340 : Int) ≤ ((340 : Nat) : Int)]) (pc' := 20) (ls' := [some (.inr (.inr (308, i))), some (.inl v), some (.inl ((340 : Nat) : Int)), some (.inl 340)]) (st' := []) (M' := setA M 308 i (upTo (fun _ => v) (M.1 308 i) 340)) rfl (show (340 : Int) ≤ ((340 : Nat) : Int) from by omega) ?_
    exact Wp.ret rfl ⟨rfl, rfl⟩
theorem fill_402 {i : Nat} {v : Int} {M : Mm} : Ev 0 1104 [.inr (.inr (402, i)), .inl v] M (fun w M' => M' = setA M 402 i (upTo (fun _ => v) (M.1 402 i) 49) ∧ w = none) := by
  show Wp 0 1104 0 [some (.inr (.inr (402, i))), some (.inl v), none, none] [] M _
  refine Wp.path (k := 5) [] (C := []) (pc' := 5) (ls' := [some (.inr (.inr (402, i))), some (.inl v), some (.inl ((0 : Nat) : Int)), some (.inl 49)]) (st' := []) (M' := M) rfl trivial ?_
  have key := Wp.for (d := 0) (mi := 1104) (pc := 5) (Q := fun w M' => M' = setA M 402 i (upTo (fun _ => v) (M.1 402 i) 49) ∧ w = none) 49 (fun k => [some (.inr (.inr (402, i))), some (.inl v), some (.inl (k : Int)), some (.inl 49)]) (fun k => setA M 402 i (upTo (fun _ => v) (M.1 402 i) k)) (fun k hk h => ?_) ?_
  · rw [fill_0] at key
    exact key
  · refine Wp.path (k := 9) [0] (C := [(k : Int) < 49, 0 ≤ (k : Int) ∧ (k : Int) < 49, inR ((k : Int) + 1)]) (pc' := 5) (ls' := [some (.inr (.inr (402, i))), some (.inl v), some (.inl ((k : Int) + 1)), some (.inl 49)]) (st' := []) (M' := setI (setA M 402 i (upTo (fun _ => v) (M.1 402 i) k)) 402 i k v) rfl ⟨by omega, ⟨by omega, by omega⟩, show inR ((k : Int) + 1) from by unfold inR; omega⟩ ?_
    rw [fill_step M 402 i k (fun _ => v)]
    exact h
  · refine Wp.path (k := 3) [1] (C := [(49 : Int) ≤ ((49 : Nat) : Int)]) (pc' := 20) (ls' := [some (.inr (.inr (402, i))), some (.inl v), some (.inl ((49 : Nat) : Int)), some (.inl 49)]) (st' := []) (M' := setA M 402 i (upTo (fun _ => v) (M.1 402 i) 49)) rfl (show (49 : Int) ≤ ((49 : Nat) : Int) from by omega) ?_
    exact Wp.ret rfl ⟨rfl, rfl⟩
theorem fill_404 {i : Nat} {v : Int} {M : Mm} : Ev 0 1104 [.inr (.inr (404, i)), .inl v] M (fun w M' => M' = setA M 404 i (upTo (fun _ => v) (M.1 404 i) 288) ∧ w = none) := by
  show Wp 0 1104 0 [some (.inr (.inr (404, i))), some (.inl v), none, none] [] M _
  refine Wp.path (k := 5) [] (C := []) (pc' := 5) (ls' := [some (.inr (.inr (404, i))), some (.inl v), some (.inl ((0 : Nat) : Int)), some (.inl 288)]) (st' := []) (M' := M) rfl trivial ?_
  have key := Wp.for (d := 0) (mi := 1104) (pc := 5) (Q := fun w M' => M' = setA M 404 i (upTo (fun _ => v) (M.1 404 i) 288) ∧ w = none) 288 (fun k => [some (.inr (.inr (404, i))), some (.inl v), some (.inl (k : Int)), some (.inl 288)]) (fun k => setA M 404 i (upTo (fun _ => v) (M.1 404 i) k)) (fun k hk h => ?_) ?_
  · rw [fill_0] at key
    exact key
  · refine Wp.path (k := 9) [0] (C := [(k : Int) < 288, 0 ≤ (k : Int) ∧ (k : Int) < 288, inR ((k : Int) + 1)]) (pc' := 5) (ls' := [some (.inr (.inr (404, i))), some (.inl v), some (.inl ((k : Int) + 1)), some (.inl 288)]) (st' := []) (M' := setI (setA M 404 i (upTo (fun _ => v) (M.1 404 i) k)) 404 i k v) rfl ⟨by omega, ⟨by omega, by omega⟩, show inR ((k : Int) + 1) from by unfold inR; omega⟩ ?_
    rw [fill_step M 404 i k (fun _ => v)]
    exact h
  · refine Wp.path (k := 3) [1] (C := [(288 : Int) ≤ ((288 : Nat) : Int)]) (pc' := 20) (ls' := [some (.inr (.inr (404, i))), some (.inl v), some (.inl ((288 : Nat) : Int)), some (.inl 288)]) (st' := []) (M' := setA M 404 i (upTo (fun _ => v) (M.1 404 i) 288)) rfl (show (288 : Int) ≤ ((288 : Nat) : Int) from by omega) ?_
    exact Wp.ret rfl ⟨rfl, rfl⟩
theorem fill_405 {i : Nat} {v : Int} {M : Mm} : Ev 0 1104 [.inr (.inr (405, i)), .inl v] M (fun w M' => M' = setA M 405 i (upTo (fun _ => v) (M.1 405 i) 288) ∧ w = none) := by
  show Wp 0 1104 0 [some (.inr (.inr (405, i))), some (.inl v), none, none] [] M _
  refine Wp.path (k := 5) [] (C := []) (pc' := 5) (ls' := [some (.inr (.inr (405, i))), some (.inl v), some (.inl ((0 : Nat) : Int)), some (.inl 288)]) (st' := []) (M' := M) rfl trivial ?_
  have key := Wp.for (d := 0) (mi := 1104) (pc := 5) (Q := fun w M' => M' = setA M 405 i (upTo (fun _ => v) (M.1 405 i) 288) ∧ w = none) 288 (fun k => [some (.inr (.inr (405, i))), some (.inl v), some (.inl (k : Int)), some (.inl 288)]) (fun k => setA M 405 i (upTo (fun _ => v) (M.1 405 i) k)) (fun k hk h => ?_) ?_
  · rw [fill_0] at key
    exact key
  · refine Wp.path (k := 9) [0] (C := [(k : Int) < 288, 0 ≤ (k : Int) ∧ (k : Int) < 288, inR ((k : Int) + 1)]) (pc' := 5) (ls' := [some (.inr (.inr (405, i))), some (.inl v), some (.inl ((k : Int) + 1)), some (.inl 288)]) (st' := []) (M' := setI (setA M 405 i (upTo (fun _ => v) (M.1 405 i) k)) 405 i k v) rfl ⟨by omega, ⟨by omega, by omega⟩, show inR ((k : Int) + 1) from by unfold inR; omega⟩ ?_
    rw [fill_step M 405 i k (fun _ => v)]
    exact h
  · refine Wp.path (k := 3) [1] (C := [(288 : Int) ≤ ((288 : Nat) : Int)]) (pc' := 20) (ls' := [some (.inr (.inr (405, i))), some (.inl v), some (.inl ((288 : Nat) : Int)), some (.inl 288)]) (st' := []) (M' := setA M 405 i (upTo (fun _ => v) (M.1 405 i) 288)) rfl (show (288 : Int) ≤ ((288 : Nat) : Int) from by omega) ?_
    exact Wp.ret rfl ⟨rfl, rfl⟩
theorem fill_406 {i : Nat} {v : Int} {M : Mm} : Ev 0 1104 [.inr (.inr (406, i)), .inl v] M (fun w M' => M' = setA M 406 i (upTo (fun _ => v) (M.1 406 i) 288) ∧ w = none) := by
  show Wp 0 1104 0 [some (.inr (.inr (406, i))), some (.inl v), none, none] [] M _
  refine Wp.path (k := 5) [] (C := []) (pc' := 5) (ls' := [some (.inr (.inr (406, i))), some (.inl v), some (.inl ((0 : Nat) : Int)), some (.inl 288)]) (st' := []) (M' := M) rfl trivial ?_
  have key := Wp.for (d := 0) (mi := 1104) (pc := 5) (Q := fun w M' => M' = setA M 406 i (upTo (fun _ => v) (M.1 406 i) 288) ∧ w = none) 288 (fun k => [some (.inr (.inr (406, i))), some (.inl v), some (.inl (k : Int)), some (.inl 288)]) (fun k => setA M 406 i (upTo (fun _ => v) (M.1 406 i) k)) (fun k hk h => ?_) ?_
  · rw [fill_0] at key
    exact key
  · refine Wp.path (k := 9) [0] (C := [(k : Int) < 288, 0 ≤ (k : Int) ∧ (k : Int) < 288, inR ((k : Int) + 1)]) (pc' := 5) (ls' := [some (.inr (.inr (406, i))), some (.inl v), some (.inl ((k : Int) + 1)), some (.inl 288)]) (st' := []) (M' := setI (setA M 406 i (upTo (fun _ => v) (M.1 406 i) k)) 406 i k v) rfl ⟨by omega, ⟨by omega, by omega⟩, show inR ((k : Int) + 1) from by unfold inR; omega⟩ ?_
    rw [fill_step M 406 i k (fun _ => v)]
    exact h
  · refine Wp.path (k := 3) [1] (C := [(288 : Int) ≤ ((288 : Nat) : Int)]) (pc' := 20) (ls' := [some (.inr (.inr (406, i))), some (.inl v), some (.inl ((288 : Nat) : Int)), some (.inl 288)]) (st' := []) (M' := setA M 406 i (upTo (fun _ => v) (M.1 406 i) 288)) rfl (show (288 : Int) ≤ ((288 : Nat) : Int) from by omega) ?_
    exact Wp.ret rfl ⟨rfl, rfl⟩
theorem fill_407 {i : Nat} {v : Int} {M : Mm} : Ev 0 1104 [.inr (.inr (407, i)), .inl v] M (fun w M' => M' = setA M 407 i (upTo (fun _ => v) (M.1 407 i) 72) ∧ w = none) := by
  show Wp 0 1104 0 [some (.inr (.inr (407, i))), some (.inl v), none, none] [] M _
  refine Wp.path (k := 5) [] (C := []) (pc' := 5) (ls' := [some (.inr (.inr (407, i))), some (.inl v), some (.inl ((0 : Nat) : Int)), some (.inl 72)]) (st' := []) (M' := M) rfl trivial ?_
  have key := Wp.for (d := 0) (mi := 1104) (pc := 5) (Q := fun w M' => M' = setA M 407 i (upTo (fun _ => v) (M.1 407 i) 72) ∧ w = none) 72 (fun k => [some (.inr (.inr (407, i))), some (.inl v), some (.inl (k : Int)), some (.inl 72)]) (fun k => setA M 407 i (upTo (fun _ => v) (M.1 407 i) k)) (fun k hk h => ?_) ?_
  · rw [fill_0] at key
    exact key
  · refine Wp.path (k := 9) [0] (C := [(k : Int) < 72, 0 ≤ (k : Int) ∧ (k : Int) < 72, inR ((k : Int) + 1)]) (pc' := 5) (ls' := [some (.inr (.inr (407, i))), some (.inl v), some (.inl ((k : Int) + 1)), some (.inl 72)]) (st' := []) (M' := setI (setA M 407 i (upTo (fun _ => v) (M.1 407 i) k)) 407 i k v) rfl ⟨by omega, ⟨by omega, by omega⟩, show inR ((k : Int) + 1) from by unfold inR; omega⟩ ?_
    rw [fill_step M 407 i k (fun _ => v)]
    exact h
  · refine Wp.path (k := 3) [1] (C := [(72 : Int) ≤ ((72 : Nat) : Int)]) (pc' := 20) (ls' := [some (.inr (.inr (407, i))), some (.inl v), some (.inl ((72 : Nat) : Int)), some (.inl 72)]) (st' := []) (M' := setA M 407 i (upTo (fun _ => v) (M.1 407 i) 72)) rfl (show (72 : Int) ≤ ((72 : Nat) : Int) from by omega) ?_
    exact Wp.ret rfl ⟨rfl, rfl⟩
theorem fill_408 {i : Nat} {v : Int} {M : Mm} : Ev 0 1104 [.inr (.inr (408, i)), .inl v] M (fun w M' => M' = setA M 408 i (upTo (fun _ => v) (M.1 408 i) 72) ∧ w = none) := by
  show Wp 0 1104 0 [some (.inr (.inr (408, i))), some (.inl v), none, none] [] M _
  refine Wp.path (k := 5) [] (C := []) (pc' := 5) (ls' := [some (.inr (.inr (408, i))), some (.inl v), some (.inl ((0 : Nat) : Int)), some (.inl 72)]) (st' := []) (M' := M) rfl trivial ?_
  have key := Wp.for (d := 0) (mi := 1104) (pc := 5) (Q := fun w M' => M' = setA M 408 i (upTo (fun _ => v) (M.1 408 i) 72) ∧ w = none) 72 (fun k => [some (.inr (.inr (408, i))), some (.inl v), some (.inl (k : Int)), some (.inl 72)]) (fun k => setA M 408 i (upTo (fun _ => v) (M.1 408 i) k)) (fun k hk h => ?_) ?_
  · rw [fill_0] at key
    exact key
  · refine Wp.path (k := 9) [0] (C := [(k : Int) < 72, 0 ≤ (k : Int) ∧ (k : Int) < 72, inR ((k : Int) + 1)]) (pc' := 5) (ls' := [some (.inr (.inr (408, i))), some (.inl v), some (.inl ((k : Int) + 1)), some (.inl 72)]) (st' := []) (M' := setI (setA M 408 i (upTo (fun _ => v) (M.1 408 i) k)) 408 i k v) rfl ⟨by omega, ⟨by omega, by omega⟩, show inR ((k : Int) + 1) from by unfold inR; omega⟩ ?_
    rw [fill_step M 408 i k (fun _ => v)]
    exact h
  · refine Wp.path (k := 3) [1] (C := [(72 : Int) ≤ ((72 : Nat) : Int)]) (pc' := 20) (ls' := [some (.inr (.inr (408, i))), some (.inl v), some (.inl ((72 : Nat) : Int)), some (.inl 72)]) (st' := []) (M' := setA M 408 i (upTo (fun _ => v) (M.1 408 i) 72)) rfl (show (72 : Int) ≤ ((72 : Nat) : Int) from by omega) ?_
    exact Wp.ret rfl ⟨rfl, rfl⟩
theorem fill_500 {i : Nat} {v : Int} {M : Mm} : Ev 0 1104 [.inr (.inr (500, i)), .inl v] M (fun w M' => M' = setA M 500 i (upTo (fun _ => v) (M.1 500 i) 12) ∧ w = none) := by
  show Wp 0 1104 0 [some (.inr (.inr (500, i))), some (.inl v), none, none] [] M _
  refine Wp.path (k := 5) [] (C := []) (pc' := 5) (ls' := [some (.inr (.inr (500, i))), some (.inl v), some (.inl ((0 : Nat) : Int)), some (.inl 12)]) (st' := []) (M' := M) rfl trivial ?_
  have key := Wp.for (d := 0) (mi := 1104) (pc := 5) (Q := fun w M' => M' = setA M 500 i (upTo (fun _ => v) (M.1 500 i) 12) ∧ w = none) 12 (fun k => [some (.inr (.inr (500, i))), some (.inl v), some (.inl (k : Int)), some (.inl 12)]) (fun k => setA M 500 i (upTo (fun _ => v) (M.1 500 i) k)) (fun k hk h => ?_) ?_
  · rw [fill_0] at key
    exact key
  · refine Wp.path (k := 9) [0] (C := [(k : Int) < 12, 0 ≤ (k : Int) ∧ (k : Int) < 12, inR ((k : Int) + 1)]) (pc' := 5) (ls' := [some (.inr (.inr (500, i))), some (.inl v), some (.inl ((k : Int) + 1)), some (.inl 12)]) (st' := []) (M' := setI (setA M 500 i (upTo (fun _ => v) (M.1 500 i) k)) 500 i k v) rfl ⟨by omega, ⟨by omega, by omega⟩, show inR ((k : Int) + 1) from by unfold inR; omega⟩ ?_
    rw [fill_step M 500 i k (fun _ => v)]
    exact h
  · refine Wp.path (k := 3) [1] (C := [(12 : Int) ≤ ((12 : Nat) : Int)]) (pc' := 20) (ls' := [some (.inr (.inr (500, i))), some (.inl v), some (.inl ((12 : Nat) : Int)), some (.inl 12)]) (st' := []) (M' := setA M 500 i (upTo (fun _ => v) (M.1 500 i) 12)) rfl (show (12 : Int) ≤ ((12 : Nat) : Int) from by omega) ?_
    exact Wp.ret rfl ⟨rfl, rfl⟩
theorem fill_501 {i : Nat} {v : Int} {M : Mm} : Ev 0 1104 [.inr (.inr (501, i)), .inl v] M (fun w M' => M' = setA M 501 i (upTo (fun _ => v) (M.1 501 i) 12) ∧ w = none) := by
  show Wp 0 1104 0 [some (.inr (.inr (501, i))), some (.inl v), none, none] [] M _
  refine Wp.path (k := 5) [] (C := []) (pc' := 5) (ls' := [some (.inr (.inr (501, i))), some (.inl v), some (.inl ((0 : Nat) : Int)), some (.inl 12)]) (st' := []) (M' := M) rfl trivial ?_
  have key := Wp.for (d := 0) (mi := 1104) (pc := 5) (Q := fun w M' => M' = setA M 501 i (upTo (fun _ => v) (M.1 501 i) 12) ∧ w = none) 12 (fun k => [some (.inr (.inr (501, i))), some (.inl v), some (.inl (k : Int)), some (.inl 12)]) (fun k => setA M 501 i (upTo (fun _ => v) (M.1 501 i) k)) (fun k hk h => ?_) ?_
  · rw [fill_0] at key
    exact key
  · refine Wp.path (k := 9) [0] (C := [(k : Int) < 12, 0 ≤ (k : Int) ∧ (k : Int) < 12, inR ((k : Int) + 1)]) (pc' := 5) (ls' := [some (.inr (.inr (501, i))), some (.inl v), some (.inl ((k : Int) + 1)), some (.inl 12)]) (st' := []) (M' := setI (setA M 501 i (upTo (fun _ => v) (M.1 501 i) k)) 501 i k v) rfl ⟨by omega, ⟨by omega, by omega⟩, show inR ((k : Int) + 1) from by unfold inR; omega⟩ ?_
    rw [fill_step M 501 i k (fun _ => v)]
    exact h
  · refine Wp.path (k := 3) [1] (C := [(12 : Int) ≤ ((12 : Nat) : Int)]) (pc' := 20) (ls' := [some (.inr (.inr (501, i))), some (.inl v), some (.inl ((12 : Nat) : Int)), some (.inl 12)]) (st' := []) (M' := setA M 501 i (upTo (fun _ => v) (M.1 501 i) 12)) rfl (show (12 : Int) ≤ ((12 : Nat) : Int) from by omega) ?_
    exact Wp.ret rfl ⟨rfl, rfl⟩
theorem fill_607 {i : Nat} {v : Int} {M : Mm} : Ev 0 1104 [.inr (.inr (607, i)), .inl v] M (fun w M' => M' = setA M 607 i (upTo (fun _ => v) (M.1 607 i) 26) ∧ w = none) := by
  show Wp 0 1104 0 [some (.inr (.inr (607, i))), some (.inl v), none, none] [] M _
  refine Wp.path (k := 5) [] (C := []) (pc' := 5) (ls' := [some (.inr (.inr (607, i))), some (.inl v), some (.inl ((0 : Nat) : Int)), some (.inl 26)]) (st' := []) (M' := M) rfl trivial ?_
  have key := Wp.for (d := 0) (mi := 1104) (pc := 5) (Q := fun w M' => M' = setA M 607 i (upTo (fun _ => v) (M.1 607 i) 26) ∧ w = none) 26 (fun k => [some (.inr (.inr (607, i))), some (.inl v), some (.inl (k : Int)), some (.inl 26)]) (fun k => setA M 607 i (upTo (fun _ => v) (M.1 607 i) k)) (fun k hk h => ?_) ?_
  · rw [fill_0] at key
    exact key
  · refine Wp.path (k := 9) [0] (C := [(k : Int) < 26, 0 ≤ (k : Int) ∧ (k : Int) < 26, inR ((k : Int) + 1)]) (pc' := 5) (ls' := [some (.inr (.inr (607, i))), some (.inl v), some (.inl ((k : Int) + 1)), some (.inl 26)]) (st' := []) (M' := setI (setA M 607 i (upTo (fun _ => v) (M.1 607 i) k)) 607 i k v) rfl ⟨by omega, ⟨by omega, by omega⟩, show inR ((k : Int) + 1) from by unfold inR; omega⟩ ?_
    rw [fill_step M 607 i k (fun _ => v)]
    exact h
  · refine Wp.path (k := 3) [1] (C := [(26 : Int) ≤ ((26 : Nat) : Int)]) (pc' := 20) (ls' := [some (.inr (.inr (607, i))), some (.inl v), some (.inl ((26 : Nat) : Int)), some (.inl 26)]) (st' := []) (M' := setA M 607 i (upTo (fun _ => v) (M.1 607 i) 26)) rfl (show (26 : Int) ≤ ((26 : Nat) : Int) from by omega) ?_
    exact Wp.ret rfl ⟨rfl, rfl⟩
theorem fill_608 {i : Nat} {v : Int} {M : Mm} : Ev 0 1104 [.inr (.inr (608, i)), .inl v] M (fun w M' => M' = setA M 608 i (upTo (fun _ => v) (M.1 608 i) 144) ∧ w = none) := by
  show Wp 0 1104 0 [some (.inr (.inr (608, i))), some (.inl v), none, none] [] M _
  refine Wp.path (k := 5) [] (C := []) (pc' := 5) (ls' := [some (.inr (.inr (608, i))), some (.inl v), some (.inl ((0 : Nat) : Int)), some (.inl 144)]) (st' := []) (M' := M) rfl trivial ?_
  have key := Wp.for (d := 0) (mi := 1104) (pc := 5) (Q := fun w M' => M' = setA M 608 i (upTo (fun _ => v) (M.1 608 i) 144) ∧ w = none) 144 (fun k => [some (.inr (.inr (608, i))), some (.inl v), some (.inl (k : Int)), some (.inl 144)]) (fun k => setA M 608 i (upTo (fun _ => v) (M.1 608 i) k)) (fun k hk h => ?_) ?_
  · rw [fill_0] at key
    exact key
  · refine Wp.path (k := 9) [0] (C := [(k : Int) < 144, 0 ≤ (k : Int) ∧ (k : Int) < 144, inR ((k : Int) + 1)]) (pc' := 5) (ls' := [some (.inr (.inr (608, i))), some (.inl v), some (.inl ((k : Int) + 1)), some (.inl 144)]) (st' := []) (M' := setI (setA M 608 i (upTo (fun _ => v) (M.1 608 i) k)) 608 i k v) rfl ⟨by omega, ⟨by omega, by omega⟩, show inR ((k : Int) + 1) from by unfold inR; omega⟩ ?_
    rw [fill_step M 608 i k (fun _ => v)]
    exact h
  · refine Wp.path (k := 3) [1] (C := [(144 : Int) ≤ ((144 : Nat) : Int)]) (pc' := 20) (ls' := [some (.inr (.inr (608, i))), some (.inl v), some (.inl ((144 : Nat) : Int)), some (.inl 144)]) (st' := []) (M' := setA M 608 i (upTo (fun _ => v) (M.1 608 i) 144)) rfl (show (144 : Int) ≤ ((144 : Nat) : Int) from by omega) ?_
    exact Wp.ret rfl ⟨rfl, rfl⟩
theorem fill_609 {i : Nat} {v : Int} {M : Mm} : Ev 0 1104 [.inr (.inr (609, i)), .inl v] M (fun w M' => M' = setA M 609 i (upTo (fun _ => v) (M.1 609 i) 144) ∧ w = none) := by
  show Wp 0 1104 0 [some (.inr (.inr (609, i))), some (.inl v), none, none] [] M _
  refine Wp.path (k := 5) [] (C := []) (pc' := 5) (ls' := [some (.inr (.inr (609, i))), some (.inl v), some (.inl ((0 : Nat) : Int)), some (.inl 144)]) (st' := []) (M' := M) rfl trivial ?_
  have key := Wp.for (d := 0) (mi := 1104) (pc := 5) (Q := fun w M' => M' = setA M 609 i (upTo (fun _ => v) (M.1 609 i) 144) ∧ w = none) 144 (fun k => [some (.inr (.inr (609, i))), some (.inl v), some (.inl (k : Int)), some (.inl 144)]) (fun k => setA M 609 i (upTo (fun _ => v) (M.1 609 i) k)) (fun k hk h => ?_) ?_
  · rw [fill_0] at key
    exact key
  · refine Wp.path (k := 9) [0] (C := [(k : Int) < 144, 0 ≤ (k : Int) ∧ (k : Int) < 144, inR ((k : Int) + 1)]) (pc' := 5) (ls' := [some (.inr (.inr (609, i))), some (.inl v), some (.inl ((k : Int) + 1)), some (.inl 144)]) (st' := []) (M' := setI (setA M 609 i (upTo (fun _ => v) (M.1 609 i) k)) 609 i k v) rfl ⟨by omega, ⟨by omega, by omega⟩, show inR ((k : Int) + 1) from by unfold inR; omega⟩ ?_
    rw [fill_step M 609 i k (fun _ => v)]
    exact h
  · refine Wp.path (k := 3) [1] (C := [(144 : Int) ≤ ((144 : Nat) : Int)]) (pc' := 20) (ls' := [some (.inr (.inr (609, i))), some (.inl v), some (.inl ((144 : Nat) : Int)), some (.inl 144)]) (st' := []) (M' := setA M 609 i (upTo (fun _ => v) (M.1 609 i) 144)) rfl (show (144 : Int) ≤ ((144 : Nat) : Int) from by omega) ?_
    exact Wp.ret rfl ⟨rfl, rfl⟩
theorem fill_700 {i : Nat} {v : Int} {M : Mm} : Ev 0 1104 [.inr (.inr (700, i)), .inl v] M (fun w M' => M' = setA M 700 i (upTo (fun _ => v) (M.1 700 i) 60) ∧ w = none) := by
  show Wp 0 1104 0 [some (.inr (.inr (700, i))), some (.inl v), none, none] [] M _
  refine Wp.path (k := 5) [] (C := []) (pc' := 5) (ls' := [some (.inr (.inr (700, i))), some (.inl v), some (.inl ((0 : Nat) : Int)), some (.inl 60)]) (st' := []) (M' := M) rfl trivial ?_
  have key := Wp.for (d := 0) (mi := 1104) (pc := 5) (Q := fun w M' => M' = setA M 700 i (upTo (fun _ => v) (M.1 700 i) 60) ∧ w = none) 60 (fun k => [some (.inr (.inr (700, i))), some (.inl v), some (.inl (k : Int)), some (.inl 60)]) (fun k => setA M 700 i (upTo (fun _ => v) (M.1 700 i) k)) (fun k hk h => ?_) ?_
  · rw [fill_0] at key
    exact key
  · refine Wp.path (k := 9) [0] (C := [(k : Int) < 60, 0 ≤ (k : Int) ∧ (k : Int) < 60, inR ((k : Int) + 1)]) (pc' := 5) (ls' := [some (.inr (.inr (700, i))), some (.inl v), some (.inl ((k : Int) + 1)), some (.inl 60)]) (st' := []) (M' := setI (setA M 700 i (upTo (fun _ => v) (M.1 700 i) k)) 700 i k v) rfl ⟨by omega, ⟨by omega, by omega⟩, show inR ((k : Int) + 1) from by unfold inR; omega⟩ ?_
    rw [fill_step M 700 i k (fun _ => v)]
    exact h
  · refine Wp.path (k := 3) [1] (C := [(60 : Int) ≤ ((60 : Nat) : Int)]) (pc' := 20) (ls' := [some (.inr (.inr (700, i))), some (.inl v), some (.inl ((60 : Nat) : Int)), some (.inl 60)]) (st' := []) (M' := setA M 700 i (upTo (fun _ => v) (M.1 700 i) 60)) rfl (show (60 : Int) ≤ ((60 : Nat) : Int) from by omega) ?_
    exact Wp.ret rfl ⟨rfl, rfl⟩
theorem fill_701 {i : Nat} {v : Int} {M : Mm} : Ev 0 1104 [.inr (.inr (701, i)), .inl v] M (fun w M' => M' = setA M 701 i (upTo (fun _ => v) (M.1 701 i) 150) ∧ w = none) := by
  show Wp 0 1104 0 [some (.inr (.inr (701, i))), some (.inl v), none, none] [] M _
  refine Wp.path (k := 5) [] (C := []) (pc' := 5) (ls' := [some (.inr (.inr (701, i))), some (.inl v), some (.inl ((0 : Nat) : Int)), some (.inl 150)]) (st' := []) (M' := M) rfl trivial ?_
  have key := Wp.for (d := 0) (mi := 1104) (pc := 5) (Q := fun w M' => M' = setA M 701 i (upTo (fun _ => v) (M.1 701 i) 150) ∧ w = none) 150 (fun k => [some (.inr (.inr (701, i))), some (.inl v), some (.inl (k : Int)), some (.inl 150)]) (fun k => setA M 701 i (upTo (fun _ => v) (M.1 701 i) k)) (fun k hk h => ?_) ?_
  · rw [fill_0] at key
    exact key
  · refine Wp.path (k := 9) [0] (C := [(k : Int) < 150, 0 ≤ (k : Int) ∧ (k : Int) < 150, inR ((k : Int) + 1)]) (pc' := 5) (ls' := [some (.inr (.inr (701, i))), some (.inl v), some (.inl ((k : Int) + 1)), some (.inl 150)]) (st' := []) (M' := setI (setA M 701 i (upTo (fun _ => v) (M.1 701 i) k)) 701 i k v) rfl ⟨by omega, ⟨by omega, by omega⟩, show inR ((k : Int) + 1) from by unfold inR; omega⟩ ?_
    rw [fill_step M 701 i k (fun _ => v)]
    exact h
  · refine Wp.path (k := 3) [1] (C := [(150 : Int) ≤ ((150 : Nat) : Int)]) (pc' := 20) (ls' := [some (.inr (.inr (701, i))), some (.inl v), some (.inl ((150 : Nat) : Int)), some (.inl 150)]) (st' := []) (M' := setA M 701 i (upTo (fun _ => v) (M.1 701 i) 150)) rfl (show (150 : Int) ≤ ((150 : Nat) : Int) from by omega) ?_
    exact Wp.ret rfl ⟨rfl, rfl⟩
theorem fill_800 {i : Nat} {v : Int} {M : Mm} : Ev 0 1104 [.inr (.inr (800, i)), .inl v] M (fun w M' => M' = setA M 800 i (upTo (fun _ => v) (M.1 800 i) 864) ∧ w = none) := by
  show Wp 0 1104 0 [some (.inr (.inr (800, i))), some (.inl v), none, none] [] M _
  refine Wp.path (k := 5) [] (C := []) (pc' := 5) (ls' := [some (.inr (.inr (800, i))), some (.inl v), some (.inl ((0 : Nat) : Int)), some (.inl 864)]) (st' := []) (M' := M) rfl trivial ?_
  have key := Wp.for (d := 0) (mi := 1104) (pc := 5) (Q := fun w M' => M' = setA M 800 i (upTo (fun _ => v) (M.1 800 i) 864) ∧ w = none) 864 (fun k => [some (.inr (.inr (800, i))), some (.inl v), some (.inl (k : Int)), some (.inl 864)]) (fun k => setA M 800 i (upTo (fun _ => v) (M.1 800 i) k)) (fun k hk h => ?_) ?_
  · rw [fill_0] at key
    exact key
  · refine Wp.path (k := 9) [0] (C := [(k : Int) < 864, 0 ≤ (k : Int) ∧ (k : Int) < 864, inR ((k : Int) + 1)]) (pc' := 5) (ls' := [some (.inr (.inr (800, i))), some (.inl v), some (.inl ((k : Int) + 1)), some (.inl 864)]) (st' := []) (M' := setI (setA M 800 i (upTo (fun _ => v) (M.1 800 i) k)) 800 i k v) rfl ⟨by omega, ⟨by omega, by omega⟩, show inR ((k : Int) + 1) from by unfold inR; omega⟩ ?_
    rw [fill_step M 800 i k (fun _ => v)]
    exact h
  · refine Wp.path (k := 3) [1] (C := [(864 : Int) ≤ ((864 : Nat) : Int)]) (pc' := 20) (ls' := [some (.inr (.inr (800, i))), some (.inl v), some (.inl ((864 : Nat) : Int)), some (.inl 864)]) (st' := []) (M' := setA M 800 i (upTo (fun _ => v) (M.1 800 i) 864)) rfl (show (864 : Int) ≤ ((864 : Nat) : Int) from by omega) ?_
    exact Wp.ret rfl ⟨rfl, rfl⟩
theorem fill_801 {i : Nat} {v : Int} {M : Mm} : Ev 0 1104 [.inr (.inr (801, i)), .inl v] M (fun w M' => M' = setA M 801 i (upTo (fun _ => v) (M.1 801 i) 864) ∧ w = none) := by
  show Wp 0 1104 0 [some (.inr (.inr (801, i))), some (.inl v), none, none] [] M _
  refine Wp.path (k := 5) [] (C := []) (pc' := 5) (ls' := [some (.inr (.inr (801, i))), some (.inl v), some (.inl ((0 : Nat) : Int)), some (.inl 864)]) (st' := []) (M' := M) rfl trivial ?_
  have key := Wp.for (d := 0) (mi := 1104) (pc := 5) (Q := fun w M' => M' = setA M 801 i (upTo (fun _ => v) (M.1 801 i) 864) ∧ w = none) 864 (fun k => [some (.inr (.inr (801, i))), some (.inl v), some (.inl (k : Int)), some (.inl 864)]) (fun k => setA M 801 i (upTo (fun _ => v) (M.1 801 i) k)) (fun k hk h => ?_) ?_
  · rw [fill_0] at key
    exact key
  · refine Wp.path (k := 9) [0] (C := [(k : Int) < 864, 0 ≤ (k : Int) ∧ (k : Int) < 864, inR ((k : Int) + 1)]) (pc' := 5) (ls' := [some (.inr (.inr (801, i))), some (.inl v), some (.inl ((k : Int) + 1)), some (.inl 864)]) (st' := []) (M' := setI (setA M 801 i (upTo (fun _ => v) (M.1 801 i) k)) 801 i k v) rfl ⟨by omega, ⟨by omega, by omega⟩, show inR ((k : Int) + 1) from by unfold inR; omega⟩ ?_
    rw [fill_step M 801 i k (fun _ => v)]
    exact h
  · refine Wp.path (k := 3) [1] (C := [(864 : Int) ≤ ((864 : Nat) : Int)]) (pc' := 20) (ls' := [some (.inr (.inr (801, i))), some (.inl v), some (.inl ((864 : Nat) : Int)), some (.inl 864)]) (st' := []) (M' := setA M 801 i (upTo (fun _ => v) (M.1 801 i) 864)) rfl (show (864 : Int) ≤ ((864 : Nat) : Int) from by omega) ?_
    exact Wp.ret rfl ⟨rfl, rfl⟩
theorem fill_802 {i : Nat} {v : Int} {M : Mm} : Ev 0 1104 [.inr (.inr (802, i)), .inl v] M (fun w M' => M' = setA M 802 i (upTo (fun _ => v) (M.1 802 i) 864) ∧ w = none) := by
  show Wp 0 1104 0 [some (.inr (.inr (802, i))), some (.inl v), none, none] [] M _
  refine Wp.path (k := 5) [] (C := []) (pc' := 5) (ls' := [some (.inr (.inr (802, i))), some (.inl v), some (.inl ((0 : Nat) : Int)), some (.inl 864)]) (st' := []) (M' := M) rfl trivial ?_
  have key := Wp.for (d := 0) (mi := 1104) (pc := 5) (Q := fun w M' => M' = setA M 802 i (upTo (fun _ => v) (M.1 802 i) 864) ∧ w = none) 864 (fun k => [some (.inr (.inr (802, i))), some (.inl v), some (.inl (k : Int)), some (.inl 864)]) (fun k => setA M 802 i (upTo (fun _ => v) (M.1 802 i) k)) (fun k hk h => ?_) ?_
  · rw [fill_0] at key
    exact key
  · refine Wp.path (k := 9) [0] (C := [(k : Int) < 864, 0 ≤ (k : Int) ∧ (k : Int) < 864, inR ((k : Int) + 1)]) (pc' := 5) (ls' := [some (.inr (.inr (802, i))), some (.inl v), some (.inl ((k : Int) + 1)), some (.inl 864)]) (st' := []) (M' := setI (setA M 802 i (upTo (fun _ => v) (M.1 802 i) k)) 802 i k v) rfl ⟨by omega, ⟨by omega, by omega⟩, show inR ((k : Int) + 1) from by unfold inR; omega⟩ ?_
    rw [fill_step M 802 i k (fun _ => v)]
    exact h
  · refine Wp.path (k := 3) [1] (C := [(864 : Int) ≤ ((864 : Nat) : Int)]) (pc' := 20) (ls' := [some (.inr (.inr (802, i))), some (.inl v), some (.inl ((864 : Nat) : Int)), some (.inl 864)]) (st' := []) (M' := setA M 802 i (upTo (fun _ => v) (M.1 802 i) 864)) rfl (show (864 : Int) ≤ ((864 : Nat) : Int) from by omega) ?_
    exact Wp.ret rfl ⟨rfl, rfl⟩
theorem fill_803 {i : Nat} {v : Int} {M : Mm} : Ev 0 1104 [.inr (.inr (803, i)), .inl v] M (fun w M' => M' = setA M 803 i (upTo (fun _ => v) (M.1 803 i) 864) ∧ w = none) := by
  show Wp 0 1104 0 [some (.inr (.inr (803, i))), some (.inl v), none, none] [] M _
  refine Wp.path (k := 5) [] (C := []) (pc' := 5) (ls' := [some (.inr (.inr (803, i))), some (.inl v), some (.inl ((0 : Nat) : Int)), some (.inl 864)]) (st' := []) (M' := M) rfl trivial ?_
  have key := Wp.for (d := 0) (mi := 1104) (pc := 5) (Q := fun w M' => M' = setA M 803 i (upTo (fun _ => v) (M.1 803 i) 864) ∧ w = none) 864 (fun k => [some (.inr (.inr (803, i))), some (.inl v), some (.inl (k : Int)), some (.inl 864)]) (fun k => setA M 803 i (upTo (fun _ => v) (M.1 803 i) k)) (fun k hk h => ?_) ?_
  · rw [fill_0] at key
    exact key
  · refine Wp.path (k := 9) [0] (C := [(k : Int) < 864, 0 ≤ (k : Int) ∧ (k : Int) < 864, inR ((k : Int) + 1)]) (pc' := 5) (ls' := [some (.inr (.inr (803, i))), some (.inl v), some (.inl ((k : Int) + 1)), some (.inl 864)]) (st' := []) (M' := setI (setA M 803 i (upTo (fun _ => v) (M.1 803 i) k)) 803 i k v) rfl ⟨by omega, ⟨by omega, by omega⟩, show inR ((k : Int) + 1) from by unfold inR; omega⟩ ?_
    rw [fill_step M 803 i k (fun _ => v)]
    exact h
  · refine Wp.path (k := 3) [1] (C := [(864 : Int) ≤ ((864 : Nat) : Int)]) (pc' := 20) (ls' := [some (.inr (.inr (803, i))), some (.inl v), some (.inl ((864 : Nat) : Int)), some (.inl 864)]) (st' := []) (M' := setA M 803 i (upTo (fun _ => v) (M.1 803 i) 864)) rfl (show (864 : Int) ≤ ((864 : Nat) : Int) from by omega) ?_
    exact Wp.ret rfl ⟨rfl, rfl⟩
theorem fill_804 {i : Nat} {v : Int} {M : Mm} : Ev 0 1104 [.inr (.inr (804, i)), .inl v] M (fun w M' => M' = setA M 804 i (upTo (fun _ => v) (M.1 804 i) 864) ∧ w = none) := by
  show Wp 0 1104 0 [some (.inr (.inr (804, i))), some (.inl v), none, none] [] M _
  refine Wp.path (k := 5) [] (C := []) (pc' := 5) (ls' := [some (.inr (.inr (804, i))), some (.inl v), some (.inl ((0 : Nat) : Int)), some (.inl 864)]) (st' := []) (M' := M) rfl trivial ?_
  have key := Wp.for (d := 0) (mi := 1104) (pc := 5) (Q := fun w M' => M' = setA M 804 i (upTo (fun _ => v) (M.1 804 i) 864) ∧ w = none) 864 (fun k => [some (.inr (.inr (804, i))), some (.inl v), some (.inl (k : Int)), some (.inl 864)]) (fun k => setA M 804 i (upTo (fun _ => v) (M.1 804 i) k)) (fun k hk h => ?_) ?_
  · rw [fill_0] at key
    exact key
  · refine Wp.path (k := 9) [0] (C := [(k : Int) < 864, 0 ≤ (k : Int) ∧ (k : Int) < 864, inR ((k : Int) + 1)]) (pc' := 5) (ls' := [some (.inr (.inr (804, i))), some (.inl v), some (.inl ((k : Int) + 1)), some (.inl 864)]) (st' := []) (M' := setI (setA M 804 i (upTo (fun _ => v) (M.1 804 i) k)) 804 i k v) rfl ⟨by omega, ⟨by omega, by omega⟩, show inR ((k : Int) + 1) from by unfold inR; omega⟩ ?_
    rw [fill_step M 804 i k (fun _ => v)]
    exact h
  · refine Wp.path (k := 3) [1] (C := [(864 : Int) ≤ ((864 : Nat) : Int)]) (pc' := 20) (ls' := [some (.inr (.inr (804, i))), some (.inl v), some (.inl ((864 : Nat) : Int)), some (.inl 864)]) (st' := []) (M' := setA M 804 i (upTo (fun _ => v) (M.1 804 i) 864)) rfl (show (864 : Int) ≤ ((864 : Nat) : Int) from by omega) ?_
    exact Wp.ret rfl ⟨rfl, rfl⟩
theorem fill_805 {i : Nat} {v : Int} {M : Mm} : Ev 0 1104 [.inr (.inr (805, i)), .inl v] M (fun w M' => M' = setA M 805 i (upTo (fun _ => v) (M.1 805 i) 864) ∧ w = none) := by
  show Wp 0 1104 0 [some (.inr (.inr (805, i))), some (.inl v), none, none] [] M _
  refine Wp.path (k := 5) [] (C := []) (pc' := 5) (ls' := [some (.inr (.inr (805, i))), some (.inl v), some (.inl ((0 : Nat) : Int)), some (.inl 864)]) (st' := []) (M' := M) rfl trivial ?_
  have key := Wp.for (d := 0) (mi := 1104) (pc := 5) (Q := fun w M' => M' = setA M 805 i (upTo (fun _ => v) (M.1 805 i) 864) ∧ w = none) 864 (fun k => [some (.inr (.inr (805, i))), some (.inl v), some (.inl (k : Int)), some (.inl 864)]) (fun k => setA M 805 i (upTo (fun _ => v) (M.1 805 i) k)) (fun k hk h => ?_) ?_
  · rw [fill_0] at key
    exact key
  · refine Wp.path (k := 9) [0] (C := [(k : Int) < 864, 0 ≤ (k : Int) ∧ (k : Int) < 864, inR ((k : Int) + 1)]) (pc' := 5) (ls' := [some (.inr (.inr (805, i))), some (.inl v), some (.inl ((k : Int) + 1)), some (.inl 864)]) (st' := []) (M' := setI (setA M 805 i (upTo (fun _ => v) (M.1 805 i) k)) 805 i k v) rfl ⟨by omega, ⟨by omega, by omega⟩, show inR ((k : Int) + 1) from by unfold inR; omega⟩ ?_
    rw [fill_step M 805 i k (fun _ => v)]
    exact h
  · refine Wp.path (k := 3) [1] (C := [(864 : Int) ≤ ((864 : Nat) : Int)]) (pc' := 20) (ls' := [some (.inr (.inr (805, i))), some (.inl v), some (.inl ((864 : Nat) : Int)), some (.inl 864)]) (st' := []) (M' := setA M 805 i (upTo (fun _ => v) (M.1 805 i) 864)) rfl (show (864 : Int) ≤ ((864 : Nat) : Int) from by omega) ?_
    exact Wp.ret rfl ⟨rfl, rfl⟩
theorem fill_806 {i : Nat} {v : Int} {M : Mm} : Ev 0 1104 [.inr (.inr (806, i)), .inl v] M (fun w M' => M' = setA M 806 i (upTo (fun _ => v) (M.1 806 i) 864) ∧ w = none) := by
  show Wp 0 1104 0 [some (.inr (.inr (806, i))), some (.inl v), none, none] [] M _
  refine Wp.path (k := 5) [] (C := []) (pc' := 5) (ls' := [some (.inr (.inr (806, i))), some (.inl v), some (.inl ((0 : Nat) : Int)), some (.inl 864)]) (st' := []) (M' := M) rfl trivial ?_
  have key := Wp.for (d := 0) (mi := 1104) (pc := 5) (Q := fun w M' => M' = setA M 806 i (upTo (fun _ => v) (M.1 806 i) 864) ∧ w = none) 864 (fun k => [some (.inr (.inr (806, i))), some (.inl v), some (.inl (k : Int)), some (.inl 864)]) (fun k => setA M 806 i (upTo (fun _ => v) (M.1 806 i) k)) (fun k hk h => ?_) ?_
  · rw [fill_0] at key
    exact key
  · refine Wp.path (k := 9) [0] (C := [(k : Int) < 864, 0 ≤ (k : Int) ∧ (k : Int) < 864, inR ((k : Int) + 1)]) (pc' := 5) (ls' := [some (.inr (.inr (806, i))), some (.inl v), some (.inl ((k : Int) + 1)), some (.inl 864)]) (st' := []) (M' := setI (setA M 806 i (upTo (fun _ => v) (M.1 806 i) k)) 806 i k v) rfl ⟨by omega, ⟨by omega, by omega⟩, show inR ((k : Int) + 1) from by unfold inR; omega⟩ ?_
    rw [fill_step M 806 i k (fun _ => v)]
    exact h
  · refine Wp.path (k := 3) [1] (C := [(864 : Int) ≤ ((864 : Nat) : Int)]) (pc' := 20) (ls' := [some (.inr (.inr (806, i))), some (.inl v), some (.inl ((864 : Nat) : Int)), some (.inl 864)]) (st' := []) (M' := setA M 806 i (upTo (fun _ => v) (M.1 806 i) 864)) rfl (show (864 : Int) ≤ ((864 : Nat) : Int) from by omega) ?_
    exact Wp.ret rfl ⟨rfl, rfl⟩
theorem fill_807 {i : Nat} {v : Int} {M : Mm} : Ev 0 1104 [.inr (.inr (807, i)), .inl v] M (fun w M' => M' = setA M 807 i (upTo (fun _ => v) (M.1 807 i) 864) ∧ w = none) := by
  show Wp 0 1104 0 [some (.inr (.inr (807, i))), some (.inl v), none, none] [] M _
  refine Wp.path (k := 5) [] (C := []) (pc' := 5) (ls' := [some (.inr (.inr (807, i))), some (.inl v), some (.inl ((0 : Nat) : Int)), some (.inl 864)]) (st' := []) (M' := M) rfl trivial ?_
  have key := Wp.for (d := 0) (mi := 1104) (pc := 5) (Q := fun w M' => M' = setA M 807 i (upTo (fun _ => v) (M.1 807 i) 864) ∧ w = none) 864 (fun k => [some (.inr (.inr (807, i))), some (.inl v), some (.inl (k : Int)), some (.inl 864)]) (fun k => setA M 807 i (upTo (fun _ => v) (M.1 807 i) k)) (fun k hk h => ?_) ?_
  · rw [fill_0] at key
    exact key
  · refine Wp.path (k := 9) [0] (C := [(k : Int) < 864, 0 ≤ (k : Int) ∧ (k : Int) < 864, inR ((k : Int) + 1)]) (pc' := 5) (ls' := [some (.inr (.inr (807, i))), some (.inl v), some (.inl ((k : Int) + 1)), some (.inl 864)]) (st' := []) (M' := setI (setA M 807 i (upTo (fun _ => v) (M.1 807 i) k)) 807 i k v) rfl ⟨by omega, ⟨by omega, by omega⟩, show inR ((k : Int) + 1) from by unfold inR; omega⟩ ?_
    rw [fill_step M 807 i k (fun _ => v)]
    exact h
  · refine Wp.path (k := 3) [1] (C := [(864 : Int) ≤ ((864 : Nat) : Int)]) (pc' := 20) (ls' := [some (.inr (.inr (807, i))), some (.inl v), some (.inl ((864 : Nat) : Int)), some (.inl 864)]) (st' := []) (M' := setA M 807 i (upTo (fun _ => v) (M.1 807 i) 864)) rfl (show (864 : Int) ≤ ((864 : Nat) : Int) from by omega) ?_
    exact Wp.ret rfl ⟨rfl, rfl⟩
theorem fill_808 {i : Nat} {v : Int} {M : Mm} : Ev 0 1104 [.inr (.inr (808, i)), .inl v] M (fun w M' => M' = setA M 808 i (upTo (fun _ => v) (M.1 808 i) 864) ∧ w = none) := by
  show Wp 0 1104 0 [some (.inr (.inr (808, i))), some (.inl v), none, none] [] M _
  refine Wp.path (k := 5) [] (C := []) (pc' := 5) (ls' := [some (.inr (.inr (808, i))), some (.inl v), some (.inl ((0 : Nat) : Int)), some (.inl 864)]) (st' := []) (M' := M) rfl trivial ?_
  have key := Wp.for (d := 0) (mi := 1104) (pc := 5) (Q := fun w M' => M' = setA M 808 i (upTo (fun _ => v) (M.1 808 i) 864) ∧ w = none) 864 (fun k => [some (.inr (.inr (808, i))), some (.inl v), some (.inl (k : Int)), some (.inl 864)]) (fun k => setA M 808 i (upTo (fun _ => v) (M.1 808 i) k)) (fun k hk h => ?_) ?_
  · rw [fill_0] at key
    exact key
  · refine Wp.path (k := 9) [0] (C := [(k : Int) < 864, 0 ≤ (k : Int) ∧ (k : Int) < 864, inR ((k : Int) + 1)]) (pc' := 5) (ls' := [some (.inr (.inr (808, i))), some (.inl v), some (.inl ((k : Int) + 1)), some (.inl 864)]) (st' := []) (M' := setI (setA M 808 i (upTo (fun _ => v) (M.1 808 i) k)) 808 i k v) rfl ⟨by omega, ⟨by omega, by omega⟩, show inR ((k : Int) + 1) from by unfold inR; omega⟩ ?_
    rw [fill_step M 808 i k (fun _ => v)]
    exact h
  · refine Wp.path (k := 3) [1] (C := [(864 : Int) ≤ ((864 : Nat) : Int)]) (pc' := 20) (ls' := [some (.inr (.inr (808, i))), some (.inl v), some (.inl ((864 : Nat) : Int)), some (.inl 864)]) (st' := []) (M' := setA M 808 i (upTo (fun _ => v) (M.1 808 i) 864)) rfl (show (864 : Int) ≤ ((864 : Nat) : Int) from by omega) ?_
    exact Wp.ret rfl ⟨rfl, rfl⟩
theorem fill_900 {i : Nat} {v : Int} {M : Mm} : Ev 0 1104 [.inr (.inr (900, i)), .inl v] M (fun w M' => M' = setA M 900 i (upTo (fun _ => v) (M.1 900 i) 2304) ∧ w = none) := by
  show Wp 0 1104 0 [some (.inr (.inr (900, i))), some (.inl v), none, none] [] M _
  refine Wp.path (k := 5) [] (C := []) (pc' := 5) (ls' := [some (.inr (.inr (900, i))), some (.inl v), some (.inl ((0 : Nat) : Int)), some (.inl 2304)]) (st' := []) (M' := M) rfl trivial ?_
  have key := Wp.for (d := 0) (mi := 1104) (pc := 5) (Q := fun w M' => M' = setA M 900 i (upTo (fun _ => v) (M.1 900 i) 2304) ∧ w = none) 2304 (fun k => [some (.inr (.inr (900, i))), some (.inl v), some (.inl (k : Int)), some (.inl 2304)]) (fun k => setA M 900 i (upTo (fun _ => v) (M.1 900 i) k)) (fun k hk h => ?_) ?_
  · rw [fill_0] at key
    exact key
  · refine Wp.path (k := 9) [0] (C := [(k : Int) < 2304, 0 ≤ (k : Int) ∧ (k : Int) < 2304, inR ((k : Int) + 1)]) (pc' := 5) (ls' := [some (.inr (.inr (900, i))), some (.inl v), some (.inl ((k : Int) + 1)), some (.inl 2304)]) (st' := []) (M' := setI (setA M 900 i (upTo (fun _ => v) (M.1 900 i) k)) 900 i k v) rfl ⟨by omega, ⟨by omega, by omega⟩, show inR ((k : Int) + 1) from by unfold inR; omega⟩ ?_
    rw [fill_step M 900 i k (fun _ => v)]
    exact h
  · refine Wp.path (k := 3) [1] (C := [(2304 : Int) ≤ ((2304 : Nat) : Int)]) (pc' := 20) (ls' := [some (.inr (.inr (900, i))), some (.inl v), some (.inl ((2304 : Nat) : Int)), some (.inl 2304)]) (st' := []) (M' := setA M 900 i (upTo (fun _ => v) (M.1 900 i) 2304)) rfl (show (2304 : Int) ≤ ((2304 : Nat) : Int) from by omega) ?_
    exact Wp.ret rfl ⟨rfl, rfl⟩
theorem fill_901 {i : Nat} {v : Int} {M : Mm} : Ev 0 1104 [.inr (.inr (901, i)), .inl v] M (fun w M' => M' = setA M 901 i (upTo (fun _ => v) (M.1 901 i) 2304) ∧ w = none) := by
  show Wp 0 1104 0 [some (.inr (.inr (901, i))), some (.inl v), none, none] [] M _
  refine Wp.path (k := 5) [] (C := []) (pc' := 5) (ls' := [some (.inr (.inr (901, i))), some (.inl v), some (.inl ((0 : Nat) : Int)), some (.inl 2304)]) (st' := []) (M' := M) rfl trivial ?_
  have key := Wp.for (d := 0) (mi := 1104) (pc := 5) (Q := fun w M' => M' = setA M 901 i (upTo (fun _ => v) (M.1 901 i) 2304) ∧ w = none) 2304 (fun k => [some (.inr (.inr (901, i))), some (.inl v), some (.inl (k : Int)), some (.inl 2304)]) (fun k => setA M 901 i (upTo (fun _ => v) (M.1 901 i) k)) (fun k hk h => ?_) ?_
  · rw [fill_0] at key
    exact key
  · refine Wp.path (k := 9) [0] (C := [(k : Int) < 2304, 0 ≤ (k : Int) ∧ (k : Int) < 2304, inR ((k : Int) + 1)]) (pc' := 5) (ls' := [some (.inr (.inr (901, i))), some (.inl v), some (.inl ((k : Int) + 1)), some (.inl 2304)]) (st' := []) (M' := setI (setA M 901 i (upTo (fun _ => v) (M.1 901 i) k)) 901 i k v) rfl ⟨by omega, ⟨by omega, by omega⟩, show inR ((k : Int) + 1) from by unfold inR; omega⟩ ?_
    rw [fill_step M 901 i k (fun _ => v)]
    exact h
  · refine Wp.path (k := 3) [1] (C := [(2304 : Int) ≤ ((2304 : Nat) : Int)]) (pc' := 20) (ls' := [some (.inr (.inr (901, i))), some (.inl v), some (.inl ((2304 : Nat) : Int)), some (.inl 2304)]) (st' := []) (M' := setA M 901 i (upTo (fun _ => v) (M.1 901 i) 2304)) rfl (show (2304 : Int) ≤ ((2304 : Nat) : Int) from by omega) ?_
    exact Wp.ret rfl ⟨rfl, rfl⟩
def hasV (f : Nat → Int) (x y : Int) : Int := if 0 ≤ x ∧ x < 12 ∧ 0 ≤ y ∧ y < 12 then (if ian (isr (f y.toNat) x) 1 = 0 then 0 else 1) else 0
theorem e401 {i : Nat} {x y : Int} {M : Mm}  : Ev 0 401 [.inr (.inr (4, i)), .inl x, .inl y] M (fun v M' => M' = M ∧ v = some (.inl (hasV (M.1 500 i) x y))) := by
  show Wp 0 401 0 [some (.inr (.inr (4, i))), some (.inl x), some (.inl y)] [] M _
  rcases Int.lt_or_le (x) (0) with c_1 | c_1
  ·
    refine Wp.path (k := 2) [1] (C := [x < 0]) (pc' := 40) (ls' := [some (.inr (.inr (4, i))), some (.inl x), some (.inl y)]) (st' := []) (M' := M) rfl c_1 ?_
    refine Wp.path (k := 1) [] (C := []) (pc' := 41) (ls' := [some (.inr (.inr (4, i))), some (.inl x), some (.inl y)]) (st' := [.inl 0]) (M' := M) rfl trivial ?_
    exact Wp.ret rfl (⟨rfl, by unfold hasV; (repeat' split) <;> first | rfl | (exfalso; omega)⟩)
  ·
    refine Wp.path (k := 2) [0] (C := [0 ≤ x]) (pc' := 4) (ls' := [some (.inr (.inr (4, i))), some (.inl x), some (.inl y)]) (st' := []) (M' := M) rfl c_1 ?_
    rcases Int.lt_or_le (x) (12) with c_2 | c_2
    ·
      refine Wp.path (k := 3) [0] (C := [x < 12]) (pc' := 10) (ls' := [some (.inr (.inr (4, i))), some (.inl x), some (.inl y)]) (st' := []) (M' := M) rfl c_2 ?_
      rcases Int.lt_or_le (y) (0) with c_3 | c_3
      ·
        refine Wp.path (k := 2) [1] (C := [y < 0]) (pc' := 40) (ls' := [some (.inr (.inr (4, i))), some (.inl x), some (.inl y)]) (st' := []) (M' := M) rfl c_3 ?_
        refine Wp.path (k := 1) [] (C := []) (pc' := 41) (ls' := [some (.inr (.inr (4, i))), some (.inl x), some (.inl y)]) (st' := [.inl 0]) (M' := M) rfl trivial ?_
        exact Wp.ret rfl (⟨rfl, by unfold hasV; (repeat' split) <;> first | rfl | (exfalso; omega)⟩)
      ·
        refine Wp.path (k := 2) [0] (C := [0 ≤ y]) (pc' := 14) (ls' := [some (.inr (.inr (4, i))), some (.inl x), some (.inl y)]) (st' := []) (M' := M) rfl c_3 ?_
        rcases Int.lt_or_le (y) (12) with c_4 | c_4
        ·
          refine Wp.path (k := 5) [0] (C := [y < 12]) (pc' := 23) (ls' := [some (.inr (.inr (4, i))), some (.inl x), some (.inl y)]) (st' := []) (M' := M) rfl c_4 ?_
          rcases Decidable.em (ian (isr (M.1 500 i y.toNat) x) 1 = 0) with c_5 | c_5
          ·
            refine Wp.path (k := 9) [1] (C := [0 ≤ y ∧ y < 12, ian (isr (M.1 500 i y.toNat) x) 1 = 0]) (pc' := 40) (ls' := [some (.inr (.inr (4, i))), some (.inl x), some (.inl y)]) (st' := []) (M' := M) rfl ⟨(show 0 ≤ y ∧ y < 12 from ⟨by omega, by omega⟩), c_5⟩ ?_
            refine Wp.path (k := 1) [] (C := []) (pc' := 41) (ls' := [some (.inr (.inr (4, i))), some (.inl x), some (.inl y)]) (st' := [.inl 0]) (M' := M) rfl trivial ?_
            exact Wp.ret rfl (⟨rfl, by unfold hasV; (repeat' split) <;> first | rfl | (exfalso; omega)⟩)
          ·
            refine Wp.path (k := 9) [0] (C := [0 ≤ y ∧ y < 12, ian (isr (M.1 500 i y.toNat) x) 1 ≠ 0]) (pc' := 36) (ls' := [some (.inr (.inr (4, i))), some (.inl x), some (.inl y)]) (st' := []) (M' := M) rfl ⟨(show 0 ≤ y ∧ y < 12 from ⟨by omega, by omega⟩), c_5⟩ ?_
            refine Wp.path (k := 2) [] (C := []) (pc' := 41) (ls' := [some (.inr (.inr (4, i))), some (.inl x), some (.inl y)]) (st' := [.inl 1]) (M' := M) rfl trivial ?_
            exact Wp.ret rfl (⟨rfl, by unfold hasV; (repeat' split) <;> first | rfl | (exfalso; omega)⟩)
        ·
          refine Wp.path (k := 5) [1] (C := [12 ≤ y]) (pc' := 40) (ls' := [some (.inr (.inr (4, i))), some (.inl x), some (.inl y)]) (st' := []) (M' := M) rfl c_4 ?_
          refine Wp.path (k := 1) [] (C := []) (pc' := 41) (ls' := [some (.inr (.inr (4, i))), some (.inl x), some (.inl y)]) (st' := [.inl 0]) (M' := M) rfl trivial ?_
          exact Wp.ret rfl (⟨rfl, by unfold hasV; (repeat' split) <;> first | rfl | (exfalso; omega)⟩)
    ·
      refine Wp.path (k := 3) [1] (C := [12 ≤ x]) (pc' := 40) (ls' := [some (.inr (.inr (4, i))), some (.inl x), some (.inl y)]) (st' := []) (M' := M) rfl c_2 ?_
      refine Wp.path (k := 1) [] (C := []) (pc' := 41) (ls' := [some (.inr (.inr (4, i))), some (.inl x), some (.inl y)]) (st' := [.inl 0]) (M' := M) rfl trivial ?_
      exact Wp.ret rfl (⟨rfl, by unfold hasV; (repeat' split) <;> first | rfl | (exfalso; omega)⟩)
def isCellV (x y : Int) : Int := if 0 ≤ x ∧ x < 12 ∧ 0 ≤ y ∧ y < 12 then 1 else 0
theorem e935 {x y : Int} {M : Mm}  : Ev 0 935 [.inl x, .inl y] M (fun v M' => M' = M ∧ v = some (.inl (isCellV x y))) := by
  show Wp 0 935 0 [some (.inl x), some (.inl y)] [] M _
  rcases Int.lt_or_le (x) (0) with c_1 | c_1
  ·
    refine Wp.path (k := 2) [1] (C := [x < 0]) (pc' := 24) (ls' := [some (.inl x), some (.inl y)]) (st' := []) (M' := M) rfl c_1 ?_
    refine Wp.path (k := 1) [] (C := []) (pc' := 25) (ls' := [some (.inl x), some (.inl y)]) (st' := [.inl 0]) (M' := M) rfl trivial ?_
    exact Wp.ret rfl (⟨rfl, by unfold isCellV; (repeat' split) <;> first | rfl | (exfalso; omega)⟩)
  ·
    refine Wp.path (k := 2) [0] (C := [0 ≤ x]) (pc' := 4) (ls' := [some (.inl x), some (.inl y)]) (st' := []) (M' := M) rfl c_1 ?_
    rcases Int.lt_or_le (x) (12) with c_2 | c_2
    ·
      refine Wp.path (k := 3) [0] (C := [x < 12]) (pc' := 10) (ls' := [some (.inl x), some (.inl y)]) (st' := []) (M' := M) rfl c_2 ?_
      rcases Int.lt_or_le (y) (0) with c_3 | c_3
      ·
        refine Wp.path (k := 2) [1] (C := [y < 0]) (pc' := 24) (ls' := [some (.inl x), some (.inl y)]) (st' := []) (M' := M) rfl c_3 ?_
        refine Wp.path (k := 1) [] (C := []) (pc' := 25) (ls' := [some (.inl x), some (.inl y)]) (st' := [.inl 0]) (M' := M) rfl trivial ?_
        exact Wp.ret rfl (⟨rfl, by unfold isCellV; (repeat' split) <;> first | rfl | (exfalso; omega)⟩)
      ·
        refine Wp.path (k := 2) [0] (C := [0 ≤ y]) (pc' := 14) (ls' := [some (.inl x), some (.inl y)]) (st' := []) (M' := M) rfl c_3 ?_
        rcases Int.lt_or_le (y) (12) with c_4 | c_4
        ·
          refine Wp.path (k := 3) [0] (C := [y < 12]) (pc' := 20) (ls' := [some (.inl x), some (.inl y)]) (st' := []) (M' := M) rfl c_4 ?_
          refine Wp.path (k := 2) [] (C := []) (pc' := 25) (ls' := [some (.inl x), some (.inl y)]) (st' := [.inl 1]) (M' := M) rfl trivial ?_
          exact Wp.ret rfl (⟨rfl, by unfold isCellV; (repeat' split) <;> first | rfl | (exfalso; omega)⟩)
        ·
          refine Wp.path (k := 3) [1] (C := [12 ≤ y]) (pc' := 24) (ls' := [some (.inl x), some (.inl y)]) (st' := []) (M' := M) rfl c_4 ?_
          refine Wp.path (k := 1) [] (C := []) (pc' := 25) (ls' := [some (.inl x), some (.inl y)]) (st' := [.inl 0]) (M' := M) rfl trivial ?_
          exact Wp.ret rfl (⟨rfl, by unfold isCellV; (repeat' split) <;> first | rfl | (exfalso; omega)⟩)
    ·
      refine Wp.path (k := 3) [1] (C := [12 ≤ x]) (pc' := 24) (ls' := [some (.inl x), some (.inl y)]) (st' := []) (M' := M) rfl c_2 ?_
      refine Wp.path (k := 1) [] (C := []) (pc' := 25) (ls' := [some (.inl x), some (.inl y)]) (st' := [.inl 0]) (M' := M) rfl trivial ?_
      exact Wp.ret rfl (⟨rfl, by unfold isCellV; (repeat' split) <;> first | rfl | (exfalso; omega)⟩)
def stepXV (d : Int) : Int := if d = 0 then 1 else if d = 2 then -1 else 0
theorem e939 {d : Int} {M : Mm}  : Ev 0 939 [.inl d] M (fun v M' => M' = M ∧ v = some (.inl (stepXV d))) := by
  show Wp 0 939 0 [some (.inl d)] [] M _
  rcases Decidable.em (d = 0) with c_1 | c_1
  ·
    refine Wp.path (k := 2) [0] (C := [d = 0]) (pc' := 4) (ls' := [some (.inl d)]) (st' := []) (M' := M) rfl c_1 ?_
    refine Wp.path (k := 2) [] (C := []) (pc' := 18) (ls' := [some (.inl d)]) (st' := [.inl 1]) (M' := M) rfl trivial ?_
    exact Wp.ret rfl (⟨rfl, by unfold stepXV; (repeat' split) <;> first | rfl | (exfalso; omega)⟩)
  ·
    refine Wp.path (k := 2) [1] (C := [d ≠ 0]) (pc' := 8) (ls' := [some (.inl d)]) (st' := []) (M' := M) rfl c_1 ?_
    rcases Decidable.em (d = 2) with c_2 | c_2
    ·
      refine Wp.path (k := 3) [0] (C := [d = 2]) (pc' := 13) (ls' := [some (.inl d)]) (st' := []) (M' := M) rfl c_2 ?_
      refine Wp.path (k := 2) [] (C := []) (pc' := 18) (ls' := [some (.inl d)]) (st' := [.inl (-1)]) (M' := M) rfl trivial ?_
      exact Wp.ret rfl (⟨rfl, by unfold stepXV; (repeat' split) <;> first | rfl | (exfalso; omega)⟩)
    ·
      refine Wp.path (k := 3) [1] (C := [d ≠ 2]) (pc' := 17) (ls' := [some (.inl d)]) (st' := []) (M' := M) rfl c_2 ?_
      refine Wp.path (k := 1) [] (C := []) (pc' := 18) (ls' := [some (.inl d)]) (st' := [.inl 0]) (M' := M) rfl trivial ?_
      exact Wp.ret rfl (⟨rfl, by unfold stepXV; (repeat' split) <;> first | rfl | (exfalso; omega)⟩)
def stepYV (d : Int) : Int := if d = 1 then 1 else if d = 3 then -1 else 0
theorem e940 {d : Int} {M : Mm}  : Ev 0 940 [.inl d] M (fun v M' => M' = M ∧ v = some (.inl (stepYV d))) := by
  show Wp 0 940 0 [some (.inl d)] [] M _
  rcases Decidable.em (d = 1) with c_1 | c_1
  ·
    refine Wp.path (k := 3) [0] (C := [d = 1]) (pc' := 5) (ls' := [some (.inl d)]) (st' := []) (M' := M) rfl c_1 ?_
    refine Wp.path (k := 2) [] (C := []) (pc' := 19) (ls' := [some (.inl d)]) (st' := [.inl 1]) (M' := M) rfl trivial ?_
    exact Wp.ret rfl (⟨rfl, by unfold stepYV; (repeat' split) <;> first | rfl | (exfalso; omega)⟩)
  ·
    refine Wp.path (k := 3) [1] (C := [d ≠ 1]) (pc' := 9) (ls' := [some (.inl d)]) (st' := []) (M' := M) rfl c_1 ?_
    rcases Decidable.em (d = 3) with c_2 | c_2
    ·
      refine Wp.path (k := 3) [0] (C := [d = 3]) (pc' := 14) (ls' := [some (.inl d)]) (st' := []) (M' := M) rfl c_2 ?_
      refine Wp.path (k := 2) [] (C := []) (pc' := 19) (ls' := [some (.inl d)]) (st' := [.inl (-1)]) (M' := M) rfl trivial ?_
      exact Wp.ret rfl (⟨rfl, by unfold stepYV; (repeat' split) <;> first | rfl | (exfalso; omega)⟩)
    ·
      refine Wp.path (k := 3) [1] (C := [d ≠ 3]) (pc' := 18) (ls' := [some (.inl d)]) (st' := []) (M' := M) rfl c_2 ?_
      refine Wp.path (k := 1) [] (C := []) (pc' := 19) (ls' := [some (.inl d)]) (st' := [.inl 0]) (M' := M) rfl trivial ?_
      exact Wp.ret rfl (⟨rfl, by unfold stepYV; (repeat' split) <;> first | rfl | (exfalso; omega)⟩)
def upV (d : Int) : Int := if d = 0 ∨ d = 3 then 1 else 0
theorem e941 {d : Int} {M : Mm}  : Ev 0 941 [.inl d] M (fun v M' => M' = M ∧ v = some (.inl (upV d))) := by
  show Wp 0 941 0 [some (.inl d)] [] M _
  rcases Decidable.em (d = 0) with c_1 | c_1
  ·
    refine Wp.path (k := 2) [1] (C := [d = 0]) (pc' := 9) (ls' := [some (.inl d)]) (st' := []) (M' := M) rfl c_1 ?_
    refine Wp.path (k := 2) [] (C := []) (pc' := 14) (ls' := [some (.inl d)]) (st' := [.inl 1]) (M' := M) rfl trivial ?_
    exact Wp.ret rfl (⟨rfl, by unfold upV; (repeat' split) <;> first | rfl | (exfalso; omega)⟩)
  ·
    refine Wp.path (k := 2) [0] (C := [d ≠ 0]) (pc' := 4) (ls' := [some (.inl d)]) (st' := []) (M' := M) rfl c_1 ?_
    rcases Decidable.em (d = 3) with c_2 | c_2
    ·
      refine Wp.path (k := 3) [0] (C := [d = 3]) (pc' := 9) (ls' := [some (.inl d)]) (st' := []) (M' := M) rfl c_2 ?_
      refine Wp.path (k := 2) [] (C := []) (pc' := 14) (ls' := [some (.inl d)]) (st' := [.inl 1]) (M' := M) rfl trivial ?_
      exact Wp.ret rfl (⟨rfl, by unfold upV; (repeat' split) <;> first | rfl | (exfalso; omega)⟩)
    ·
      refine Wp.path (k := 3) [1] (C := [d ≠ 3]) (pc' := 13) (ls' := [some (.inl d)]) (st' := []) (M' := M) rfl c_2 ?_
      refine Wp.path (k := 1) [] (C := []) (pc' := 14) (ls' := [some (.inl d)]) (st' := [.inl 0]) (M' := M) rfl trivial ?_
      exact Wp.ret rfl (⟨rfl, by unfold upV; (repeat' split) <;> first | rfl | (exfalso; omega)⟩)
def levV (d : Int) : Int := if d = 0 ∨ d = 2 then 1 else 0
theorem e942 {d : Int} {M : Mm}  : Ev 0 942 [.inl d] M (fun v M' => M' = M ∧ v = some (.inl (levV d))) := by
  show Wp 0 942 0 [some (.inl d)] [] M _
  rcases Decidable.em (d = 0) with c_1 | c_1
  ·
    refine Wp.path (k := 2) [1] (C := [d = 0]) (pc' := 9) (ls' := [some (.inl d)]) (st' := []) (M' := M) rfl c_1 ?_
    refine Wp.path (k := 2) [] (C := []) (pc' := 14) (ls' := [some (.inl d)]) (st' := [.inl 1]) (M' := M) rfl trivial ?_
    exact Wp.ret rfl (⟨rfl, by unfold levV; (repeat' split) <;> first | rfl | (exfalso; omega)⟩)
  ·
    refine Wp.path (k := 2) [0] (C := [d ≠ 0]) (pc' := 4) (ls' := [some (.inl d)]) (st' := []) (M' := M) rfl c_1 ?_
    rcases Decidable.em (d = 2) with c_2 | c_2
    ·
      refine Wp.path (k := 3) [0] (C := [d = 2]) (pc' := 9) (ls' := [some (.inl d)]) (st' := []) (M' := M) rfl c_2 ?_
      refine Wp.path (k := 2) [] (C := []) (pc' := 14) (ls' := [some (.inl d)]) (st' := [.inl 1]) (M' := M) rfl trivial ?_
      exact Wp.ret rfl (⟨rfl, by unfold levV; (repeat' split) <;> first | rfl | (exfalso; omega)⟩)
    ·
      refine Wp.path (k := 3) [1] (C := [d ≠ 2]) (pc' := 13) (ls' := [some (.inl d)]) (st' := []) (M' := M) rfl c_2 ?_
      refine Wp.path (k := 1) [] (C := []) (pc' := 14) (ls' := [some (.inl d)]) (st' := [.inl 0]) (M' := M) rfl trivial ?_
      exact Wp.ret rfl (⟨rfl, by unfold levV; (repeat' split) <;> first | rfl | (exfalso; omega)⟩)
def cmbV (o r m : Int) : Int := if o = 0 then ior' r m else if o = 1 then ian r (ixr m (-1)) else ixr r m
theorem e406 {o r m : Int} {M : Mm}  : Ev 0 406 [.inl o, .inl r, .inl m] M (fun v M' => M' = M ∧ v = some (.inl (cmbV o r m))) := by
  show Wp 0 406 0 [some (.inl o), some (.inl r), some (.inl m)] [] M _
  rcases Decidable.em (o = 0) with c_1 | c_1
  ·
    refine Wp.path (k := 2) [0] (C := [o = 0]) (pc' := 4) (ls' := [some (.inl o), some (.inl r), some (.inl m)]) (st' := []) (M' := M) rfl c_1 ?_
    refine Wp.path (k := 3) [] (C := []) (pc' := 7) (ls' := [some (.inl o), some (.inl r), some (.inl m)]) (st' := [.inl (ior' r m)]) (M' := M) rfl trivial ?_
    exact Wp.ret rfl (⟨rfl, by unfold cmbV; (repeat' split) <;> first | rfl | (exfalso; omega)⟩)
  ·
    refine Wp.path (k := 2) [1] (C := [o ≠ 0]) (pc' := 8) (ls' := [some (.inl o), some (.inl r), some (.inl m)]) (st' := []) (M' := M) rfl c_1 ?_
    rcases Decidable.em (o = 1) with c_2 | c_2
    ·
      refine Wp.path (k := 3) [0] (C := [o = 1]) (pc' := 13) (ls' := [some (.inl o), some (.inl r), some (.inl m)]) (st' := []) (M' := M) rfl c_2 ?_
      refine Wp.path (k := 6) [] (C := []) (pc' := 24) (ls' := [some (.inl o), some (.inl r), some (.inl m)]) (st' := [.inl (ian r (ixr m (-1)))]) (M' := M) rfl trivial ?_
      exact Wp.ret rfl (⟨rfl, by unfold cmbV; (repeat' split) <;> first | rfl | (exfalso; omega)⟩)
    ·
      refine Wp.path (k := 3) [1] (C := [o ≠ 1]) (pc' := 21) (ls' := [some (.inl o), some (.inl r), some (.inl m)]) (st' := []) (M' := M) rfl c_2 ?_
      refine Wp.path (k := 3) [] (C := []) (pc' := 24) (ls' := [some (.inl o), some (.inl r), some (.inl m)]) (st' := [.inl (ixr r m)]) (M' := M) rfl trivial ?_
      exact Wp.ret rfl (⟨rfl, by unfold cmbV; (repeat' split) <;> first | rfl | (exfalso; omega)⟩)

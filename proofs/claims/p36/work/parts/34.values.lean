/-! contracts by value; more small methods -/
def rV (Q : Mm → Prop) : Option Vv → Mm → Prop := fun v M1 => v = none ∧ Q M1
def rI (Q : Int → Mm → Prop) : Option Vv → Mm → Prop := fun v M1 => ∃ r, v = some (.inl r) ∧ Q r M1
def rJ (Q : Int64 → Mm → Prop) : Option Vv → Mm → Prop := fun v M1 => ∃ r, v = some (.inr (.inl r)) ∧ Q r M1
def rP (Q : Nat → Mm → Prop) : Option Vv → Mm → Prop := fun v M1 => ∃ r, v = some (.inr (.inr (3, r))) ∧ Q r M1
theorem Bd {α : Type} {e : α} {P : α → Prop} (h : ∀ x, x = e → P x) : P e := h e rfl
theorem lcm_p (a b : Int64) : lcm a b = 0 ↔ a = b := by
  unfold lcm lg_cmp
  by_cases h : a = b
  · subst h
    have h1 : ¬ (a > a) := fun g => by have := Int64.lt_iff_toInt_lt.mp g; omega
    rw [if_neg h1, if_pos rfl]
    exact ⟨fun _ => rfl, fun _ => rfl⟩
  · rw [if_neg h]
    refine ⟨fun g => absurd g ?_, fun g => absurd g h⟩
    by_cases h1 : a > b
    · rw [if_pos h1]; decide
    · rw [if_neg h1]; decide
theorem lcm_e {a b : Int64} (h : a = b) : lcm a b = 0 := (lcm_p a b).mpr h
theorem lcm_n {a b : Int64} (h : ¬ a = b) : lcm a b ≠ 0 := fun g => h ((lcm_p a b).mp g)
theorem tsw_d {pc : Nat} {df lo hi : Int} {offs : Array Int} {v : Int} (h : v < lo ∨ hi < v) : tswT pc df lo hi offs v = ((pc : Int) + df).toNat := by
  unfold tswT
  rcases h with h | h
  · rw [if_pos h]
  · by_cases h2 : v < lo
    · rw [if_pos h2]
    · rw [if_neg h2, if_pos h]
def atJ (L : Nat) (f : Nat → Int64) (j : Int) : Int64 := if 0 ≤ j ∧ j < L then f j.toNat else Int64.ofNat 0
def putJ (L : Nat) (f : Nat → Int64) (j : Int) (v : Int64) : Nat → Int64 := fun q => if 0 ≤ j ∧ j < L ∧ q = j.toNat then v else f q
theorem putJ_in {M : Mm} {t i L : Nat} {j : Int} {v : Int64} (h0 : 0 ≤ j) (h1 : j < L) : setJ M t i j.toNat v = setL M t i (putJ L (M.2 t i) j v) := by
  rw [setJ_L]
  congr 1
  funext q
  unfold putJ
  by_cases h : q = j.toNat
  · rw [if_pos h, if_pos ⟨h0, h1, h⟩]
  · rw [if_neg h, if_neg (fun g => h g.2.2)]
theorem putJ_out {M : Mm} {t i L : Nat} {j : Int} {v : Int64} (h : ¬ (0 ≤ j ∧ j < L)) : M = setL M t i (putJ L (M.2 t i) j v) := by
  have e : putJ L (M.2 t i) j v = M.2 t i := by
    funext q
    unfold putJ
    rw [if_neg (fun g => h ⟨g.1, g.2.1⟩)]
  rw [e, setL_self]
theorem rat_401 {i : Nat} {y : Int} {M : Mm}  : Ev 0 945 [.inr (.inr (401, i)), .inl y] M (fun v M' => M' = M ∧ v = some (.inr (.inl (atJ 48 (M.2 401 i) y)))) := by
  show Wp 0 945 0 [some (.inr (.inr (401, i))), some (.inl y)] [] M _
  rcases Int.lt_or_le (y) (0) with c_1 | c_1
  ·
    refine Wp.path (k := 2) [1] (C := [y < 0]) (pc' := 16) (ls' := [some (.inr (.inr (401, i))), some (.inl y)]) (st' := []) (M' := M) rfl c_1 ?_
    refine Wp.path (k := 1) [] (C := []) (pc' := 17) (ls' := [some (.inr (.inr (401, i))), some (.inl y)]) (st' := [.inr (.inl (Int64.ofNat 0))]) (M' := M) rfl trivial ?_
    exact Wp.ret rfl (⟨rfl, by unfold atJ; (repeat' split) <;> first | rfl | (exfalso; omega) | (exfalso; simp_all)⟩)
  ·
    refine Wp.path (k := 2) [0] (C := [0 ≤ y]) (pc' := 4) (ls' := [some (.inr (.inr (401, i))), some (.inl y)]) (st' := []) (M' := M) rfl c_1 ?_
    rcases Int.lt_or_le (y) (48) with c_2 | c_2
    ·
      refine Wp.path (k := 4) [0] (C := [y < 48]) (pc' := 10) (ls' := [some (.inr (.inr (401, i))), some (.inl y)]) (st' := []) (M' := M) rfl c_2 ?_
      refine Wp.path (k := 4) [] (C := [0 ≤ y ∧ y < 48]) (pc' := 17) (ls' := [some (.inr (.inr (401, i))), some (.inl y)]) (st' := [.inr (.inl (M.2 401 i y.toNat))]) (M' := M) rfl (show 0 ≤ y ∧ y < 48 from ⟨by omega, by omega⟩) ?_
      exact Wp.ret rfl (⟨rfl, by unfold atJ; (repeat' split) <;> first | rfl | (exfalso; omega) | (exfalso; simp_all)⟩)
    ·
      refine Wp.path (k := 4) [1] (C := [48 ≤ y]) (pc' := 16) (ls' := [some (.inr (.inr (401, i))), some (.inl y)]) (st' := []) (M' := M) rfl c_2 ?_
      refine Wp.path (k := 1) [] (C := []) (pc' := 17) (ls' := [some (.inr (.inr (401, i))), some (.inl y)]) (st' := [.inr (.inl (Int64.ofNat 0))]) (M' := M) rfl trivial ?_
      exact Wp.ret rfl (⟨rfl, by unfold atJ; (repeat' split) <;> first | rfl | (exfalso; omega) | (exfalso; simp_all)⟩)
theorem rat_403 {i : Nat} {y : Int} {M : Mm}  : Ev 0 945 [.inr (.inr (403, i)), .inl y] M (fun v M' => M' = M ∧ v = some (.inr (.inl (atJ 288 (M.2 403 i) y)))) := by
  show Wp 0 945 0 [some (.inr (.inr (403, i))), some (.inl y)] [] M _
  rcases Int.lt_or_le (y) (0) with c_1 | c_1
  ·
    refine Wp.path (k := 2) [1] (C := [y < 0]) (pc' := 16) (ls' := [some (.inr (.inr (403, i))), some (.inl y)]) (st' := []) (M' := M) rfl c_1 ?_
    refine Wp.path (k := 1) [] (C := []) (pc' := 17) (ls' := [some (.inr (.inr (403, i))), some (.inl y)]) (st' := [.inr (.inl (Int64.ofNat 0))]) (M' := M) rfl trivial ?_
    exact Wp.ret rfl (⟨rfl, by unfold atJ; (repeat' split) <;> first | rfl | (exfalso; omega) | (exfalso; simp_all)⟩)
  ·
    refine Wp.path (k := 2) [0] (C := [0 ≤ y]) (pc' := 4) (ls' := [some (.inr (.inr (403, i))), some (.inl y)]) (st' := []) (M' := M) rfl c_1 ?_
    rcases Int.lt_or_le (y) (288) with c_2 | c_2
    ·
      refine Wp.path (k := 4) [0] (C := [y < 288]) (pc' := 10) (ls' := [some (.inr (.inr (403, i))), some (.inl y)]) (st' := []) (M' := M) rfl c_2 ?_
      refine Wp.path (k := 4) [] (C := [0 ≤ y ∧ y < 288]) (pc' := 17) (ls' := [some (.inr (.inr (403, i))), some (.inl y)]) (st' := [.inr (.inl (M.2 403 i y.toNat))]) (M' := M) rfl (show 0 ≤ y ∧ y < 288 from ⟨by omega, by omega⟩) ?_
      exact Wp.ret rfl (⟨rfl, by unfold atJ; (repeat' split) <;> first | rfl | (exfalso; omega) | (exfalso; simp_all)⟩)
    ·
      refine Wp.path (k := 4) [1] (C := [288 ≤ y]) (pc' := 16) (ls' := [some (.inr (.inr (403, i))), some (.inl y)]) (st' := []) (M' := M) rfl c_2 ?_
      refine Wp.path (k := 1) [] (C := []) (pc' := 17) (ls' := [some (.inr (.inr (403, i))), some (.inl y)]) (st' := [.inr (.inl (Int64.ofNat 0))]) (M' := M) rfl trivial ?_
      exact Wp.ret rfl (⟨rfl, by unfold atJ; (repeat' split) <;> first | rfl | (exfalso; omega) | (exfalso; simp_all)⟩)
theorem rat_605 {i : Nat} {y : Int} {M : Mm}  : Ev 0 945 [.inr (.inr (605, i)), .inl y] M (fun v M' => M' = M ∧ v = some (.inr (.inl (atJ 48 (M.2 605 i) y)))) := by
  show Wp 0 945 0 [some (.inr (.inr (605, i))), some (.inl y)] [] M _
  rcases Int.lt_or_le (y) (0) with c_1 | c_1
  ·
    refine Wp.path (k := 2) [1] (C := [y < 0]) (pc' := 16) (ls' := [some (.inr (.inr (605, i))), some (.inl y)]) (st' := []) (M' := M) rfl c_1 ?_
    refine Wp.path (k := 1) [] (C := []) (pc' := 17) (ls' := [some (.inr (.inr (605, i))), some (.inl y)]) (st' := [.inr (.inl (Int64.ofNat 0))]) (M' := M) rfl trivial ?_
    exact Wp.ret rfl (⟨rfl, by unfold atJ; (repeat' split) <;> first | rfl | (exfalso; omega) | (exfalso; simp_all)⟩)
  ·
    refine Wp.path (k := 2) [0] (C := [0 ≤ y]) (pc' := 4) (ls' := [some (.inr (.inr (605, i))), some (.inl y)]) (st' := []) (M' := M) rfl c_1 ?_
    rcases Int.lt_or_le (y) (48) with c_2 | c_2
    ·
      refine Wp.path (k := 4) [0] (C := [y < 48]) (pc' := 10) (ls' := [some (.inr (.inr (605, i))), some (.inl y)]) (st' := []) (M' := M) rfl c_2 ?_
      refine Wp.path (k := 4) [] (C := [0 ≤ y ∧ y < 48]) (pc' := 17) (ls' := [some (.inr (.inr (605, i))), some (.inl y)]) (st' := [.inr (.inl (M.2 605 i y.toNat))]) (M' := M) rfl (show 0 ≤ y ∧ y < 48 from ⟨by omega, by omega⟩) ?_
      exact Wp.ret rfl (⟨rfl, by unfold atJ; (repeat' split) <;> first | rfl | (exfalso; omega) | (exfalso; simp_all)⟩)
    ·
      refine Wp.path (k := 4) [1] (C := [48 ≤ y]) (pc' := 16) (ls' := [some (.inr (.inr (605, i))), some (.inl y)]) (st' := []) (M' := M) rfl c_2 ?_
      refine Wp.path (k := 1) [] (C := []) (pc' := 17) (ls' := [some (.inr (.inr (605, i))), some (.inl y)]) (st' := [.inr (.inl (Int64.ofNat 0))]) (M' := M) rfl trivial ?_
      exact Wp.ret rfl (⟨rfl, by unfold atJ; (repeat' split) <;> first | rfl | (exfalso; omega) | (exfalso; simp_all)⟩)
theorem rat_606 {i : Nat} {y : Int} {M : Mm}  : Ev 0 945 [.inr (.inr (606, i)), .inl y] M (fun v M' => M' = M ∧ v = some (.inr (.inl (atJ 48 (M.2 606 i) y)))) := by
  show Wp 0 945 0 [some (.inr (.inr (606, i))), some (.inl y)] [] M _
  rcases Int.lt_or_le (y) (0) with c_1 | c_1
  ·
    refine Wp.path (k := 2) [1] (C := [y < 0]) (pc' := 16) (ls' := [some (.inr (.inr (606, i))), some (.inl y)]) (st' := []) (M' := M) rfl c_1 ?_
    refine Wp.path (k := 1) [] (C := []) (pc' := 17) (ls' := [some (.inr (.inr (606, i))), some (.inl y)]) (st' := [.inr (.inl (Int64.ofNat 0))]) (M' := M) rfl trivial ?_
    exact Wp.ret rfl (⟨rfl, by unfold atJ; (repeat' split) <;> first | rfl | (exfalso; omega) | (exfalso; simp_all)⟩)
  ·
    refine Wp.path (k := 2) [0] (C := [0 ≤ y]) (pc' := 4) (ls' := [some (.inr (.inr (606, i))), some (.inl y)]) (st' := []) (M' := M) rfl c_1 ?_
    rcases Int.lt_or_le (y) (48) with c_2 | c_2
    ·
      refine Wp.path (k := 4) [0] (C := [y < 48]) (pc' := 10) (ls' := [some (.inr (.inr (606, i))), some (.inl y)]) (st' := []) (M' := M) rfl c_2 ?_
      refine Wp.path (k := 4) [] (C := [0 ≤ y ∧ y < 48]) (pc' := 17) (ls' := [some (.inr (.inr (606, i))), some (.inl y)]) (st' := [.inr (.inl (M.2 606 i y.toNat))]) (M' := M) rfl (show 0 ≤ y ∧ y < 48 from ⟨by omega, by omega⟩) ?_
      exact Wp.ret rfl (⟨rfl, by unfold atJ; (repeat' split) <;> first | rfl | (exfalso; omega) | (exfalso; simp_all)⟩)
    ·
      refine Wp.path (k := 4) [1] (C := [48 ≤ y]) (pc' := 16) (ls' := [some (.inr (.inr (606, i))), some (.inl y)]) (st' := []) (M' := M) rfl c_2 ?_
      refine Wp.path (k := 1) [] (C := []) (pc' := 17) (ls' := [some (.inr (.inr (606, i))), some (.inl y)]) (st' := [.inr (.inl (Int64.ofNat 0))]) (M' := M) rfl trivial ?_
      exact Wp.ret rfl (⟨rfl, by unfold atJ; (repeat' split) <;> first | rfl | (exfalso; omega) | (exfalso; simp_all)⟩)
theorem e302 {i : Nat} {y : Int} {M : Mm}  : Ev 1 302 [.inr (.inr (3, i)), .inl y] M (fun v M' => M' = M ∧ v = some (.inr (.inl (atJ 48 (M.2 401 i) y)))) := by
  show Wp 1 302 0 [some (.inr (.inr (3, i))), some (.inl y)] [] M _
  refine Wp.path (k := 3) [] (C := []) (pc' := 5) (ls' := [some (.inr (.inr (3, i))), some (.inl y)]) (st' := [.inl y, .inr (.inr (401, i))]) (M' := M) rfl trivial ?_
  refine Wp.call (rat_401) rfl rfl (by decide) ?_
  rintro v_ M_ ⟨eM_, ev_⟩
  rw [eM_, ev_]
  clear eM_ ev_ v_ M_
  show Wp _ 302 8 [some (.inr (.inr (3, i))), some (.inl y)] [.inr (.inl (atJ 48 (M.2 401 i) y))] M _
  exact Wp.ret rfl (⟨rfl, rfl⟩)
theorem e303 {i : Nat} {y : Int} {v : Int64} {M : Mm}  : Ev 0 303 [.inr (.inr (3, i)), .inl y, .inr (.inl v)] M (fun w M' => M' = setL M 401 i (putJ 48 (M.2 401 i) y v) ∧ w = none) := by
  show Wp 0 303 0 [some (.inr (.inr (3, i))), some (.inl y), some (.inr (.inl v)), none] [] M _
  rcases Int.lt_or_le (y) (0) with c_1 | c_1
  ·
    refine Wp.path (k := 2) [1] (C := [y < 0]) (pc' := 20) (ls' := [some (.inr (.inr (3, i))), some (.inl y), some (.inr (.inl v)), none]) (st' := []) (M' := M) rfl c_1 ?_
    exact Wp.ret rfl (⟨putJ_out (by omega), rfl⟩)
  ·
    refine Wp.path (k := 2) [0] (C := [0 ≤ y]) (pc' := 4) (ls' := [some (.inr (.inr (3, i))), some (.inl y), some (.inr (.inl v)), none]) (st' := []) (M' := M) rfl c_1 ?_
    rcases Int.lt_or_le (y) (48) with c_2 | c_2
    ·
      refine Wp.path (k := 5) [0] (C := [y < 48]) (pc' := 13) (ls' := [some (.inr (.inr (3, i))), some (.inl y), some (.inr (.inl v)), none]) (st' := []) (M' := M) rfl c_2 ?_
      refine Wp.path (k := 5) [] (C := [0 ≤ y ∧ y < 48]) (pc' := 20) (ls' := [some (.inr (.inr (3, i))), some (.inl y), some (.inr (.inl v)), none]) (st' := []) (M' := setJ M 401 i y.toNat v) rfl (show 0 ≤ y ∧ y < 48 from ⟨by omega, by omega⟩) ?_
      exact Wp.ret rfl (⟨putJ_in (by omega) (by omega), rfl⟩)
    ·
      refine Wp.path (k := 5) [1] (C := [48 ≤ y]) (pc' := 20) (ls' := [some (.inr (.inr (3, i))), some (.inl y), some (.inr (.inl v)), none]) (st' := []) (M' := M) rfl c_2 ?_
      exact Wp.ret rfl (⟨putJ_out (by omega), rfl⟩)
def lowV (v : Int64) : Int := (cntB (bJ ((v &&& -v) - Int64.ofNat 1)) 64 : Int)
theorem e944 {w : Int64} {M : Mm}  : Ev 1 944 [.inr (.inl w)] M (fun v M' => M' = M ∧ v = some (.inl (lowV w))) := by
  show Wp 1 944 0 [some (.inr (.inl w)), none] [] M _
  refine Wp.path (k := 6) [] (C := []) (pc' := 6) (ls' := [some (.inr (.inl w)), none]) (st' := [.inr (.inl ((w &&& (-w)) - (Int64.ofNat 1)))]) (M' := M) rfl trivial ?_
  refine Wp.call (e1101) rfl rfl (by decide) ?_
  rintro v_ M_ ⟨eM_, ev_⟩
  rw [eM_, ev_]
  clear eM_ ev_ v_ M_
  show Wp _ 944 9 [some (.inr (.inl w)), none] [.inl (cntB (bJ ((w &&& (-w)) - (Int64.ofNat 1))) 64 : Int)] M _
  exact Wp.ret rfl (⟨rfl, rfl⟩)
def covV (f : Nat → Int64) (x y : Int) : Int := if 0 ≤ x ∧ x < 48 ∧ 0 ≤ y ∧ y < 48 then (if lcm (lsr (f y.toNat) x &&& Int64.ofNat 1) (Int64.ofNat 0) = 0 then 0 else 1) else 0
theorem e301 {i : Nat} {x y : Int} {M : Mm}  : Ev 0 301 [.inr (.inr (3, i)), .inl x, .inl y] M (fun v M' => M' = M ∧ v = some (.inl (covV (M.2 401 i) x y))) := by
  show Wp 0 301 0 [some (.inr (.inr (3, i))), some (.inl x), some (.inl y)] [] M _
  rcases Int.lt_or_le (x) (0) with c_1 | c_1
  ·
    refine Wp.path (k := 2) [1] (C := [x < 0]) (pc' := 42) (ls' := [some (.inr (.inr (3, i))), some (.inl x), some (.inl y)]) (st' := []) (M' := M) rfl c_1 ?_
    refine Wp.path (k := 1) [] (C := []) (pc' := 43) (ls' := [some (.inr (.inr (3, i))), some (.inl x), some (.inl y)]) (st' := [.inl 0]) (M' := M) rfl trivial ?_
    exact Wp.ret rfl (⟨rfl, by unfold covV; (repeat' split) <;> first | rfl | (exfalso; omega) | (exfalso; simp_all)⟩)
  ·
    refine Wp.path (k := 2) [0] (C := [0 ≤ x]) (pc' := 4) (ls' := [some (.inr (.inr (3, i))), some (.inl x), some (.inl y)]) (st' := []) (M' := M) rfl c_1 ?_
    rcases Int.lt_or_le (x) (48) with c_2 | c_2
    ·
      refine Wp.path (k := 3) [0] (C := [x < 48]) (pc' := 10) (ls' := [some (.inr (.inr (3, i))), some (.inl x), some (.inl y)]) (st' := []) (M' := M) rfl c_2 ?_
      rcases Int.lt_or_le (y) (0) with c_3 | c_3
      ·
        refine Wp.path (k := 2) [1] (C := [y < 0]) (pc' := 42) (ls' := [some (.inr (.inr (3, i))), some (.inl x), some (.inl y)]) (st' := []) (M' := M) rfl c_3 ?_
        refine Wp.path (k := 1) [] (C := []) (pc' := 43) (ls' := [some (.inr (.inr (3, i))), some (.inl x), some (.inl y)]) (st' := [.inl 0]) (M' := M) rfl trivial ?_
        exact Wp.ret rfl (⟨rfl, by unfold covV; (repeat' split) <;> first | rfl | (exfalso; omega) | (exfalso; simp_all)⟩)
      ·
        refine Wp.path (k := 2) [0] (C := [0 ≤ y]) (pc' := 14) (ls' := [some (.inr (.inr (3, i))), some (.inl x), some (.inl y)]) (st' := []) (M' := M) rfl c_3 ?_
        rcases Int.lt_or_le (y) (48) with c_4 | c_4
        ·
          refine Wp.path (k := 5) [0] (C := [y < 48]) (pc' := 23) (ls' := [some (.inr (.inr (3, i))), some (.inl x), some (.inl y)]) (st' := []) (M' := M) rfl c_4 ?_
          rcases Decidable.em (lcm ((lsr (M.2 401 i y.toNat) x) &&& (Int64.ofNat 1)) (Int64.ofNat 0) = 0) with c_5 | c_5
          ·
            refine Wp.path (k := 11) [1] (C := [0 ≤ y ∧ y < 48, lcm ((lsr (M.2 401 i y.toNat) x) &&& (Int64.ofNat 1)) (Int64.ofNat 0) = 0]) (pc' := 42) (ls' := [some (.inr (.inr (3, i))), some (.inl x), some (.inl y)]) (st' := []) (M' := M) rfl ⟨(show 0 ≤ y ∧ y < 48 from ⟨by omega, by omega⟩), c_5⟩ ?_
            refine Wp.path (k := 1) [] (C := []) (pc' := 43) (ls' := [some (.inr (.inr (3, i))), some (.inl x), some (.inl y)]) (st' := [.inl 0]) (M' := M) rfl trivial ?_
            exact Wp.ret rfl (⟨rfl, by unfold covV; (repeat' split) <;> first | rfl | (exfalso; omega) | (exfalso; simp_all)⟩)
          ·
            refine Wp.path (k := 11) [0] (C := [0 ≤ y ∧ y < 48, lcm ((lsr (M.2 401 i y.toNat) x) &&& (Int64.ofNat 1)) (Int64.ofNat 0) ≠ 0]) (pc' := 38) (ls' := [some (.inr (.inr (3, i))), some (.inl x), some (.inl y)]) (st' := []) (M' := M) rfl ⟨(show 0 ≤ y ∧ y < 48 from ⟨by omega, by omega⟩), c_5⟩ ?_
            refine Wp.path (k := 2) [] (C := []) (pc' := 43) (ls' := [some (.inr (.inr (3, i))), some (.inl x), some (.inl y)]) (st' := [.inl 1]) (M' := M) rfl trivial ?_
            exact Wp.ret rfl (⟨rfl, by unfold covV; (repeat' split) <;> first | rfl | (exfalso; omega) | (exfalso; simp_all)⟩)
        ·
          refine Wp.path (k := 5) [1] (C := [48 ≤ y]) (pc' := 42) (ls' := [some (.inr (.inr (3, i))), some (.inl x), some (.inl y)]) (st' := []) (M' := M) rfl c_4 ?_
          refine Wp.path (k := 1) [] (C := []) (pc' := 43) (ls' := [some (.inr (.inr (3, i))), some (.inl x), some (.inl y)]) (st' := [.inl 0]) (M' := M) rfl trivial ?_
          exact Wp.ret rfl (⟨rfl, by unfold covV; (repeat' split) <;> first | rfl | (exfalso; omega) | (exfalso; simp_all)⟩)
    ·
      refine Wp.path (k := 3) [1] (C := [48 ≤ x]) (pc' := 42) (ls' := [some (.inr (.inr (3, i))), some (.inl x), some (.inl y)]) (st' := []) (M' := M) rfl c_2 ?_
      refine Wp.path (k := 1) [] (C := []) (pc' := 43) (ls' := [some (.inr (.inr (3, i))), some (.inl x), some (.inl y)]) (st' := [.inl 0]) (M' := M) rfl trivial ?_
      exact Wp.ret rfl (⟨rfl, by unfold covV; (repeat' split) <;> first | rfl | (exfalso; omega) | (exfalso; simp_all)⟩)
def bndV (f : Nat → Int64) (x y : Int) : Int := if 0 ≤ x ∧ x ≤ 48 ∧ 0 ≤ y ∧ y < 49 then (if lcm (lsr (f y.toNat) x &&& Int64.ofNat 1) (Int64.ofNat 0) = 0 then 0 else 1) else 0
theorem e206 {i : Nat} {x y : Int} {M : Mm}  : Ev 0 206 [.inr (.inr (2, i)), .inl x, .inl y] M (fun v M' => M' = M ∧ v = some (.inl (bndV (M.2 309 i) x y))) := by
  show Wp 0 206 0 [some (.inr (.inr (2, i))), some (.inl x), some (.inl y)] [] M _
  rcases Int.lt_or_le (x) (0) with c_1 | c_1
  ·
    refine Wp.path (k := 2) [1] (C := [x < 0]) (pc' := 42) (ls' := [some (.inr (.inr (2, i))), some (.inl x), some (.inl y)]) (st' := []) (M' := M) rfl c_1 ?_
    refine Wp.path (k := 1) [] (C := []) (pc' := 43) (ls' := [some (.inr (.inr (2, i))), some (.inl x), some (.inl y)]) (st' := [.inl 0]) (M' := M) rfl trivial ?_
    exact Wp.ret rfl (⟨rfl, by unfold bndV; (repeat' split) <;> first | rfl | (exfalso; omega) | (exfalso; simp_all)⟩)
  ·
    refine Wp.path (k := 2) [0] (C := [0 ≤ x]) (pc' := 4) (ls' := [some (.inr (.inr (2, i))), some (.inl x), some (.inl y)]) (st' := []) (M' := M) rfl c_1 ?_
    rcases Int.lt_or_le (48) (x) with c_2 | c_2
    ·
      refine Wp.path (k := 3) [1] (C := [48 < x]) (pc' := 42) (ls' := [some (.inr (.inr (2, i))), some (.inl x), some (.inl y)]) (st' := []) (M' := M) rfl c_2 ?_
      refine Wp.path (k := 1) [] (C := []) (pc' := 43) (ls' := [some (.inr (.inr (2, i))), some (.inl x), some (.inl y)]) (st' := [.inl 0]) (M' := M) rfl trivial ?_
      exact Wp.ret rfl (⟨rfl, by unfold bndV; (repeat' split) <;> first | rfl | (exfalso; omega) | (exfalso; simp_all)⟩)
    ·
      refine Wp.path (k := 3) [0] (C := [x ≤ 48]) (pc' := 10) (ls' := [some (.inr (.inr (2, i))), some (.inl x), some (.inl y)]) (st' := []) (M' := M) rfl c_2 ?_
      rcases Int.lt_or_le (y) (0) with c_3 | c_3
      ·
        refine Wp.path (k := 2) [1] (C := [y < 0]) (pc' := 42) (ls' := [some (.inr (.inr (2, i))), some (.inl x), some (.inl y)]) (st' := []) (M' := M) rfl c_3 ?_
        refine Wp.path (k := 1) [] (C := []) (pc' := 43) (ls' := [some (.inr (.inr (2, i))), some (.inl x), some (.inl y)]) (st' := [.inl 0]) (M' := M) rfl trivial ?_
        exact Wp.ret rfl (⟨rfl, by unfold bndV; (repeat' split) <;> first | rfl | (exfalso; omega) | (exfalso; simp_all)⟩)
      ·
        refine Wp.path (k := 2) [0] (C := [0 ≤ y]) (pc' := 14) (ls' := [some (.inr (.inr (2, i))), some (.inl x), some (.inl y)]) (st' := []) (M' := M) rfl c_3 ?_
        rcases Int.lt_or_le (y) (49) with c_4 | c_4
        ·
          refine Wp.path (k := 5) [0] (C := [y < 49]) (pc' := 23) (ls' := [some (.inr (.inr (2, i))), some (.inl x), some (.inl y)]) (st' := []) (M' := M) rfl c_4 ?_
          rcases Decidable.em (lcm ((lsr (M.2 309 i y.toNat) x) &&& (Int64.ofNat 1)) (Int64.ofNat 0) = 0) with c_5 | c_5
          ·
            refine Wp.path (k := 11) [1] (C := [0 ≤ y ∧ y < 49, lcm ((lsr (M.2 309 i y.toNat) x) &&& (Int64.ofNat 1)) (Int64.ofNat 0) = 0]) (pc' := 42) (ls' := [some (.inr (.inr (2, i))), some (.inl x), some (.inl y)]) (st' := []) (M' := M) rfl ⟨(show 0 ≤ y ∧ y < 49 from ⟨by omega, by omega⟩), c_5⟩ ?_
            refine Wp.path (k := 1) [] (C := []) (pc' := 43) (ls' := [some (.inr (.inr (2, i))), some (.inl x), some (.inl y)]) (st' := [.inl 0]) (M' := M) rfl trivial ?_
            exact Wp.ret rfl (⟨rfl, by unfold bndV; (repeat' split) <;> first | rfl | (exfalso; omega) | (exfalso; simp_all)⟩)
          ·
            refine Wp.path (k := 11) [0] (C := [0 ≤ y ∧ y < 49, lcm ((lsr (M.2 309 i y.toNat) x) &&& (Int64.ofNat 1)) (Int64.ofNat 0) ≠ 0]) (pc' := 38) (ls' := [some (.inr (.inr (2, i))), some (.inl x), some (.inl y)]) (st' := []) (M' := M) rfl ⟨(show 0 ≤ y ∧ y < 49 from ⟨by omega, by omega⟩), c_5⟩ ?_
            refine Wp.path (k := 2) [] (C := []) (pc' := 43) (ls' := [some (.inr (.inr (2, i))), some (.inl x), some (.inl y)]) (st' := [.inl 1]) (M' := M) rfl trivial ?_
            exact Wp.ret rfl (⟨rfl, by unfold bndV; (repeat' split) <;> first | rfl | (exfalso; omega) | (exfalso; simp_all)⟩)
        ·
          refine Wp.path (k := 5) [1] (C := [49 ≤ y]) (pc' := 42) (ls' := [some (.inr (.inr (2, i))), some (.inl x), some (.inl y)]) (st' := []) (M' := M) rfl c_4 ?_
          refine Wp.path (k := 1) [] (C := []) (pc' := 43) (ls' := [some (.inr (.inr (2, i))), some (.inl x), some (.inl y)]) (st' := [.inl 0]) (M' := M) rfl trivial ?_
          exact Wp.ret rfl (⟨rfl, by unfold bndV; (repeat' split) <;> first | rfl | (exfalso; omega) | (exfalso; simp_all)⟩)
def o1 (v : Int) : Int := if v = 0 then 0 else 1
def arV (f : Nat → Int64) (x y : Int) : Int := o1 (covV f (x - 1) (y - 1)) + o1 (covV f x (y - 1)) + o1 (covV f (x - 1) y) + o1 (covV f x y)
def sofV (n : Int) (f : Nat → Int) (c : Int) : Int := if 0 ≤ c ∧ c < n then atN 96 f c else 0
theorem e209 {i : Nat} {c : Int} {M : Mm}  : Ev 1 209 [.inr (.inr (2, i)), .inl c] M (fun v M' => M' = M ∧ v = some (.inl (sofV (M.1 2 i 11) (M.1 301 i) c))) := by
  show Wp 1 209 0 [some (.inr (.inr (2, i))), some (.inl c)] [] M _
  rcases Int.lt_or_le (c) (0) with c_1 | c_1
  ·
    refine Wp.path (k := 2) [1] (C := [c < 0]) (pc' := 23) (ls' := [some (.inr (.inr (2, i))), some (.inl c)]) (st' := []) (M' := M) rfl c_1 ?_
    refine Wp.path (k := 1) [] (C := []) (pc' := 24) (ls' := [some (.inr (.inr (2, i))), some (.inl c)]) (st' := [.inl 0]) (M' := M) rfl trivial ?_
    exact Wp.ret rfl (⟨rfl, by unfold sofV; (repeat' split) <;> first | rfl | (exfalso; omega) | (exfalso; simp_all)⟩)
  ·
    refine Wp.path (k := 2) [0] (C := [0 ≤ c]) (pc' := 4) (ls' := [some (.inr (.inr (2, i))), some (.inl c)]) (st' := []) (M' := M) rfl c_1 ?_
    rcases Int.lt_or_le (c) (M.1 2 i 11) with c_2 | c_2
    ·
      refine Wp.path (k := 4) [0] (C := [c < M.1 2 i 11]) (pc' := 12) (ls' := [some (.inr (.inr (2, i))), some (.inl c)]) (st' := []) (M' := M) rfl c_2 ?_
      refine Wp.path (k := 3) [] (C := []) (pc' := 17) (ls' := [some (.inr (.inr (2, i))), some (.inl c)]) (st' := [.inl c, .inr (.inr (301, i))]) (M' := M) rfl trivial ?_
      refine Wp.call (at_301) rfl rfl (by decide) ?_
      rintro v_ M_ ⟨eM_, ev_⟩
      rw [eM_, ev_]
      clear eM_ ev_ v_ M_
      show Wp _ 209 20 [some (.inr (.inr (2, i))), some (.inl c)] [.inl (atN 96 (M.1 301 i) c)] M _
      refine Wp.path (k := 1) [] (C := []) (pc' := 24) (ls' := [some (.inr (.inr (2, i))), some (.inl c)]) (st' := [.inl (atN 96 (M.1 301 i) c)]) (M' := M) rfl trivial ?_
      exact Wp.ret rfl (⟨rfl, by unfold sofV; (repeat' split) <;> first | rfl | (exfalso; omega) | (exfalso; simp_all)⟩)
    ·
      refine Wp.path (k := 4) [1] (C := [M.1 2 i 11 ≤ c]) (pc' := 23) (ls' := [some (.inr (.inr (2, i))), some (.inl c)]) (st' := []) (M' := M) rfl c_2 ?_
      refine Wp.path (k := 1) [] (C := []) (pc' := 24) (ls' := [some (.inr (.inr (2, i))), some (.inl c)]) (st' := [.inl 0]) (M' := M) rfl trivial ?_
      exact Wp.ret rfl (⟨rfl, by unfold sofV; (repeat' split) <;> first | rfl | (exfalso; omega) | (exfalso; simp_all)⟩)
theorem e212 {i : Nat} {s : Int} {M : Mm}  : Ev 1 212 [.inr (.inr (2, i)), .inl s] M (fun v M' => M' = M ∧ v = some (.inl (atN 340 (M.1 305 i) s))) := by
  show Wp 1 212 0 [some (.inr (.inr (2, i))), some (.inl s)] [] M _
  refine Wp.path (k := 3) [] (C := []) (pc' := 5) (ls' := [some (.inr (.inr (2, i))), some (.inl s)]) (st' := [.inl s, .inr (.inr (305, i))]) (M' := M) rfl trivial ?_
  refine Wp.call (at_305) rfl rfl (by decide) ?_
  rintro v_ M_ ⟨eM_, ev_⟩
  rw [eM_, ev_]
  clear eM_ ev_ v_ M_
  show Wp _ 212 8 [some (.inr (.inr (2, i))), some (.inl s)] [.inl (atN 340 (M.1 305 i) s)] M _
  exact Wp.ret rfl (⟨rfl, rfl⟩)
theorem e213 {i : Nat} {s : Int} {M : Mm}  : Ev 1 213 [.inr (.inr (2, i)), .inl s] M (fun v M' => M' = M ∧ v = some (.inl (atN 340 (M.1 306 i) s))) := by
  show Wp 1 213 0 [some (.inr (.inr (2, i))), some (.inl s)] [] M _
  refine Wp.path (k := 3) [] (C := []) (pc' := 5) (ls' := [some (.inr (.inr (2, i))), some (.inl s)]) (st' := [.inl s, .inr (.inr (306, i))]) (M' := M) rfl trivial ?_
  refine Wp.call (at_306) rfl rfl (by decide) ?_
  rintro v_ M_ ⟨eM_, ev_⟩
  rw [eM_, ev_]
  clear eM_ ev_ v_ M_
  show Wp _ 213 8 [some (.inr (.inr (2, i))), some (.inl s)] [.inl (atN 340 (M.1 306 i) s)] M _
  exact Wp.ret rfl (⟨rfl, rfl⟩)
theorem e214 {i : Nat} {s : Int} {M : Mm}  : Ev 1 214 [.inr (.inr (2, i)), .inl s] M (fun v M' => M' = M ∧ v = some (.inl (atN 340 (M.1 307 i) s))) := by
  show Wp 1 214 0 [some (.inr (.inr (2, i))), some (.inl s)] [] M _
  refine Wp.path (k := 3) [] (C := []) (pc' := 5) (ls' := [some (.inr (.inr (2, i))), some (.inl s)]) (st' := [.inl s, .inr (.inr (307, i))]) (M' := M) rfl trivial ?_
  refine Wp.call (at_307) rfl rfl (by decide) ?_
  rintro v_ M_ ⟨eM_, ev_⟩
  rw [eM_, ev_]
  clear eM_ ev_ v_ M_
  show Wp _ 214 8 [some (.inr (.inr (2, i))), some (.inl s)] [.inl (atN 340 (M.1 307 i) s)] M _
  exact Wp.ret rfl (⟨rfl, rfl⟩)
theorem e215 {i : Nat} {s : Int} {M : Mm}  : Ev 1 215 [.inr (.inr (2, i)), .inl s] M (fun v M' => M' = M ∧ v = some (.inl (atN 340 (M.1 308 i) s))) := by
  show Wp 1 215 0 [some (.inr (.inr (2, i))), some (.inl s)] [] M _
  refine Wp.path (k := 3) [] (C := []) (pc' := 5) (ls' := [some (.inr (.inr (2, i))), some (.inl s)]) (st' := [.inl s, .inr (.inr (308, i))]) (M' := M) rfl trivial ?_
  refine Wp.call (at_308) rfl rfl (by decide) ?_
  rintro v_ M_ ⟨eM_, ev_⟩
  rw [eM_, ev_]
  clear eM_ ev_ v_ M_
  show Wp _ 215 8 [some (.inr (.inr (2, i))), some (.inl s)] [.inl (atN 340 (M.1 308 i) s)] M _
  exact Wp.ret rfl (⟨rfl, rfl⟩)
def vxV (d l lo hi : Int) : Int := if levV d = 0 then l else if d = 0 then lo else hi
def vyV (d l lo hi : Int) : Int := if levV d = 0 then (if d = 1 then lo else hi) else l
theorem e216 {i : Nat} {s : Int} {M : Mm}  : Ev 2 216 [.inr (.inr (2, i)), .inl s] M (fun v M' => M' = M ∧ v = some (.inl (vxV (atN 340 (M.1 305 i) s) (atN 340 (M.1 306 i) s) (atN 340 (M.1 307 i) s) (atN 340 (M.1 308 i) s)))) := by
  show Wp 2 216 0 [some (.inr (.inr (2, i))), some (.inl s), none] [] M _
  refine Wp.path (k := 2) [] (C := []) (pc' := 2) (ls' := [some (.inr (.inr (2, i))), some (.inl s), none]) (st' := [.inl s, .inr (.inr (2, i))]) (M' := M) rfl trivial ?_
  refine Wp.call (e212) rfl rfl (by decide) ?_
  rintro v_ M_ ⟨eM_, ev_⟩
  rw [eM_, ev_]
  clear eM_ ev_ v_ M_
  show Wp _ 216 5 [some (.inr (.inr (2, i))), some (.inl s), none] [.inl (atN 340 (M.1 305 i) s)] M _
  refine Wp.path (k := 2) [] (C := []) (pc' := 7) (ls' := [some (.inr (.inr (2, i))), some (.inl s), some (.inl (atN 340 (M.1 305 i) s))]) (st' := [.inl (atN 340 (M.1 305 i) s)]) (M' := M) rfl trivial ?_
  refine Wp.call (e942) rfl rfl (by decide) ?_
  rintro v_ M_ ⟨eM_, ev_⟩
  rw [eM_, ev_]
  clear eM_ ev_ v_ M_
  show Wp _ 216 10 [some (.inr (.inr (2, i))), some (.inl s), some (.inl (atN 340 (M.1 305 i) s))] [.inl (levV (atN 340 (M.1 305 i) s))] M _
  rcases Decidable.em (levV (atN 340 (M.1 305 i) s) = 0) with c_1 | c_1
  ·
    refine Wp.path (k := 1) [0] (C := [levV (atN 340 (M.1 305 i) s) = 0]) (pc' := 13) (ls' := [some (.inr (.inr (2, i))), some (.inl s), some (.inl (atN 340 (M.1 305 i) s))]) (st' := []) (M' := M) rfl c_1 ?_
    refine Wp.path (k := 2) [] (C := []) (pc' := 15) (ls' := [some (.inr (.inr (2, i))), some (.inl s), some (.inl (atN 340 (M.1 305 i) s))]) (st' := [.inl s, .inr (.inr (2, i))]) (M' := M) rfl trivial ?_
    refine Wp.call (e213) rfl rfl (by decide) ?_
    rintro v_ M_ ⟨eM_, ev_⟩
    rw [eM_, ev_]
    clear eM_ ev_ v_ M_
    show Wp _ 216 18 [some (.inr (.inr (2, i))), some (.inl s), some (.inl (atN 340 (M.1 305 i) s))] [.inl (atN 340 (M.1 306 i) s)] M _
    exact Wp.ret rfl (⟨rfl, by unfold vxV; (repeat' split) <;> first | rfl | (exfalso; omega) | (exfalso; simp_all)⟩)
  ·
    refine Wp.path (k := 1) [1] (C := [levV (atN 340 (M.1 305 i) s) ≠ 0]) (pc' := 19) (ls' := [some (.inr (.inr (2, i))), some (.inl s), some (.inl (atN 340 (M.1 305 i) s))]) (st' := []) (M' := M) rfl c_1 ?_
    rcases Decidable.em (atN 340 (M.1 305 i) s = 0) with c_2 | c_2
    ·
      refine Wp.path (k := 2) [0] (C := [atN 340 (M.1 305 i) s = 0]) (pc' := 23) (ls' := [some (.inr (.inr (2, i))), some (.inl s), some (.inl (atN 340 (M.1 305 i) s))]) (st' := []) (M' := M) rfl c_2 ?_
      refine Wp.path (k := 2) [] (C := []) (pc' := 25) (ls' := [some (.inr (.inr (2, i))), some (.inl s), some (.inl (atN 340 (M.1 305 i) s))]) (st' := [.inl s, .inr (.inr (2, i))]) (M' := M) rfl trivial ?_
      refine Wp.call (e214) rfl rfl (by decide) ?_
      rintro v_ M_ ⟨eM_, ev_⟩
      rw [eM_, ev_]
      clear eM_ ev_ v_ M_
      show Wp _ 216 28 [some (.inr (.inr (2, i))), some (.inl s), some (.inl (atN 340 (M.1 305 i) s))] [.inl (atN 340 (M.1 307 i) s)] M _
      refine Wp.path (k := 1) [] (C := []) (pc' := 36) (ls' := [some (.inr (.inr (2, i))), some (.inl s), some (.inl (atN 340 (M.1 305 i) s))]) (st' := [.inl (atN 340 (M.1 307 i) s)]) (M' := M) rfl trivial ?_
      exact Wp.ret rfl (⟨rfl, by unfold vxV; (repeat' split) <;> first | rfl | (exfalso; omega) | (exfalso; simp_all)⟩)
    ·
      refine Wp.path (k := 2) [1] (C := [atN 340 (M.1 305 i) s ≠ 0]) (pc' := 31) (ls' := [some (.inr (.inr (2, i))), some (.inl s), some (.inl (atN 340 (M.1 305 i) s))]) (st' := []) (M' := M) rfl c_2 ?_
      refine Wp.path (k := 2) [] (C := []) (pc' := 33) (ls' := [some (.inr (.inr (2, i))), some (.inl s), some (.inl (atN 340 (M.1 305 i) s))]) (st' := [.inl s, .inr (.inr (2, i))]) (M' := M) rfl trivial ?_
      refine Wp.call (e215) rfl rfl (by decide) ?_
      rintro v_ M_ ⟨eM_, ev_⟩
      rw [eM_, ev_]
      clear eM_ ev_ v_ M_
      show Wp _ 216 36 [some (.inr (.inr (2, i))), some (.inl s), some (.inl (atN 340 (M.1 305 i) s))] [.inl (atN 340 (M.1 308 i) s)] M _
      exact Wp.ret rfl (⟨rfl, by unfold vxV; (repeat' split) <;> first | rfl | (exfalso; omega) | (exfalso; simp_all)⟩)
theorem e217 {i : Nat} {s : Int} {M : Mm}  : Ev 2 217 [.inr (.inr (2, i)), .inl s] M (fun v M' => M' = M ∧ v = some (.inl (vyV (atN 340 (M.1 305 i) s) (atN 340 (M.1 306 i) s) (atN 340 (M.1 307 i) s) (atN 340 (M.1 308 i) s)))) := by
  show Wp 2 217 0 [some (.inr (.inr (2, i))), some (.inl s), none] [] M _
  refine Wp.path (k := 2) [] (C := []) (pc' := 2) (ls' := [some (.inr (.inr (2, i))), some (.inl s), none]) (st' := [.inl s, .inr (.inr (2, i))]) (M' := M) rfl trivial ?_
  refine Wp.call (e212) rfl rfl (by decide) ?_
  rintro v_ M_ ⟨eM_, ev_⟩
  rw [eM_, ev_]
  clear eM_ ev_ v_ M_
  show Wp _ 217 5 [some (.inr (.inr (2, i))), some (.inl s), none] [.inl (atN 340 (M.1 305 i) s)] M _
  refine Wp.path (k := 2) [] (C := []) (pc' := 7) (ls' := [some (.inr (.inr (2, i))), some (.inl s), some (.inl (atN 340 (M.1 305 i) s))]) (st' := [.inl (atN 340 (M.1 305 i) s)]) (M' := M) rfl trivial ?_
  refine Wp.call (e942) rfl rfl (by decide) ?_
  rintro v_ M_ ⟨eM_, ev_⟩
  rw [eM_, ev_]
  clear eM_ ev_ v_ M_
  show Wp _ 217 10 [some (.inr (.inr (2, i))), some (.inl s), some (.inl (atN 340 (M.1 305 i) s))] [.inl (levV (atN 340 (M.1 305 i) s))] M _
  rcases Decidable.em (levV (atN 340 (M.1 305 i) s) = 0) with c_1 | c_1
  ·
    refine Wp.path (k := 1) [1] (C := [levV (atN 340 (M.1 305 i) s) = 0]) (pc' := 19) (ls' := [some (.inr (.inr (2, i))), some (.inl s), some (.inl (atN 340 (M.1 305 i) s))]) (st' := []) (M' := M) rfl c_1 ?_
    rcases Decidable.em (atN 340 (M.1 305 i) s = 1) with c_2 | c_2
    ·
      refine Wp.path (k := 3) [0] (C := [atN 340 (M.1 305 i) s = 1]) (pc' := 24) (ls' := [some (.inr (.inr (2, i))), some (.inl s), some (.inl (atN 340 (M.1 305 i) s))]) (st' := []) (M' := M) rfl c_2 ?_
      refine Wp.path (k := 2) [] (C := []) (pc' := 26) (ls' := [some (.inr (.inr (2, i))), some (.inl s), some (.inl (atN 340 (M.1 305 i) s))]) (st' := [.inl s, .inr (.inr (2, i))]) (M' := M) rfl trivial ?_
      refine Wp.call (e214) rfl rfl (by decide) ?_
      rintro v_ M_ ⟨eM_, ev_⟩
      rw [eM_, ev_]
      clear eM_ ev_ v_ M_
      show Wp _ 217 29 [some (.inr (.inr (2, i))), some (.inl s), some (.inl (atN 340 (M.1 305 i) s))] [.inl (atN 340 (M.1 307 i) s)] M _
      refine Wp.path (k := 1) [] (C := []) (pc' := 37) (ls' := [some (.inr (.inr (2, i))), some (.inl s), some (.inl (atN 340 (M.1 305 i) s))]) (st' := [.inl (atN 340 (M.1 307 i) s)]) (M' := M) rfl trivial ?_
      exact Wp.ret rfl (⟨rfl, by unfold vyV; (repeat' split) <;> first | rfl | (exfalso; omega) | (exfalso; simp_all)⟩)
    ·
      refine Wp.path (k := 3) [1] (C := [atN 340 (M.1 305 i) s ≠ 1]) (pc' := 32) (ls' := [some (.inr (.inr (2, i))), some (.inl s), some (.inl (atN 340 (M.1 305 i) s))]) (st' := []) (M' := M) rfl c_2 ?_
      refine Wp.path (k := 2) [] (C := []) (pc' := 34) (ls' := [some (.inr (.inr (2, i))), some (.inl s), some (.inl (atN 340 (M.1 305 i) s))]) (st' := [.inl s, .inr (.inr (2, i))]) (M' := M) rfl trivial ?_
      refine Wp.call (e215) rfl rfl (by decide) ?_
      rintro v_ M_ ⟨eM_, ev_⟩
      rw [eM_, ev_]
      clear eM_ ev_ v_ M_
      show Wp _ 217 37 [some (.inr (.inr (2, i))), some (.inl s), some (.inl (atN 340 (M.1 305 i) s))] [.inl (atN 340 (M.1 308 i) s)] M _
      exact Wp.ret rfl (⟨rfl, by unfold vyV; (repeat' split) <;> first | rfl | (exfalso; omega) | (exfalso; simp_all)⟩)
  ·
    refine Wp.path (k := 1) [0] (C := [levV (atN 340 (M.1 305 i) s) ≠ 0]) (pc' := 13) (ls' := [some (.inr (.inr (2, i))), some (.inl s), some (.inl (atN 340 (M.1 305 i) s))]) (st' := []) (M' := M) rfl c_1 ?_
    refine Wp.path (k := 2) [] (C := []) (pc' := 15) (ls' := [some (.inr (.inr (2, i))), some (.inl s), some (.inl (atN 340 (M.1 305 i) s))]) (st' := [.inl s, .inr (.inr (2, i))]) (M' := M) rfl trivial ?_
    refine Wp.call (e213) rfl rfl (by decide) ?_
    rintro v_ M_ ⟨eM_, ev_⟩
    rw [eM_, ev_]
    clear eM_ ev_ v_ M_
    show Wp _ 217 18 [some (.inr (.inr (2, i))), some (.inl s), some (.inl (atN 340 (M.1 305 i) s))] [.inl (atN 340 (M.1 306 i) s)] M _
    exact Wp.ret rfl (⟨rfl, by unfold vyV; (repeat' split) <;> first | rfl | (exfalso; omega) | (exfalso; simp_all)⟩)
theorem e4 {s : Int} {M : Mm}  : Ev 1 4 [.inr (.inr (0, 0)), .inl s] M (fun v M' => M' = M ∧ v = some (.inl (atN 340 (M.1 100 0) s))) := by
  show Wp 1 4 0 [some (.inr (.inr (0, 0))), some (.inl s)] [] M _
  refine Wp.path (k := 3) [] (C := []) (pc' := 5) (ls' := [some (.inr (.inr (0, 0))), some (.inl s)]) (st' := [.inl s, .inr (.inr (100, 0))]) (M' := M) rfl trivial ?_
  refine Wp.call (at_100) rfl rfl (by decide) ?_
  rintro v_ M_ ⟨eM_, ev_⟩
  rw [eM_, ev_]
  clear eM_ ev_ v_ M_
  show Wp _ 4 8 [some (.inr (.inr (0, 0))), some (.inl s)] [.inl (atN 340 (M.1 100 0) s)] M _
  exact Wp.ret rfl (⟨rfl, rfl⟩)
theorem e5 {s : Int} {M : Mm}  : Ev 1 5 [.inr (.inr (0, 0)), .inl s] M (fun v M' => M' = M ∧ v = some (.inl (atN 340 (M.1 101 0) s))) := by
  show Wp 1 5 0 [some (.inr (.inr (0, 0))), some (.inl s)] [] M _
  refine Wp.path (k := 3) [] (C := []) (pc' := 5) (ls' := [some (.inr (.inr (0, 0))), some (.inl s)]) (st' := [.inl s, .inr (.inr (101, 0))]) (M' := M) rfl trivial ?_
  refine Wp.call (at_101) rfl rfl (by decide) ?_
  rintro v_ M_ ⟨eM_, ev_⟩
  rw [eM_, ev_]
  clear eM_ ev_ v_ M_
  show Wp _ 5 8 [some (.inr (.inr (0, 0))), some (.inl s)] [.inl (atN 340 (M.1 101 0) s)] M _
  exact Wp.ret rfl (⟨rfl, rfl⟩)
theorem e6 {s : Int} {M : Mm}  : Ev 1 6 [.inr (.inr (0, 0)), .inl s] M (fun v M' => M' = M ∧ v = some (.inl (atN 340 (M.1 102 0) s))) := by
  show Wp 1 6 0 [some (.inr (.inr (0, 0))), some (.inl s)] [] M _
  refine Wp.path (k := 3) [] (C := []) (pc' := 5) (ls' := [some (.inr (.inr (0, 0))), some (.inl s)]) (st' := [.inl s, .inr (.inr (102, 0))]) (M' := M) rfl trivial ?_
  refine Wp.call (at_102) rfl rfl (by decide) ?_
  rintro v_ M_ ⟨eM_, ev_⟩
  rw [eM_, ev_]
  clear eM_ ev_ v_ M_
  show Wp _ 6 8 [some (.inr (.inr (0, 0))), some (.inl s)] [.inl (atN 340 (M.1 102 0) s)] M _
  exact Wp.ret rfl (⟨rfl, rfl⟩)
theorem e7 {s : Int} {M : Mm}  : Ev 1 7 [.inr (.inr (0, 0)), .inl s] M (fun v M' => M' = M ∧ v = some (.inl (atN 340 (M.1 103 0) s))) := by
  show Wp 1 7 0 [some (.inr (.inr (0, 0))), some (.inl s)] [] M _
  refine Wp.path (k := 3) [] (C := []) (pc' := 5) (ls' := [some (.inr (.inr (0, 0))), some (.inl s)]) (st' := [.inl s, .inr (.inr (103, 0))]) (M' := M) rfl trivial ?_
  refine Wp.call (at_103) rfl rfl (by decide) ?_
  rintro v_ M_ ⟨eM_, ev_⟩
  rw [eM_, ev_]
  clear eM_ ev_ v_ M_
  show Wp _ 7 8 [some (.inr (.inr (0, 0))), some (.inl s)] [.inl (atN 340 (M.1 103 0) s)] M _
  exact Wp.ret rfl (⟨rfl, rfl⟩)
def ovV (f g : Nat → Int) (e x y : Int) : Int := if x < 8 * atN 340 g e then (if 8 * atN 340 f e < y then 1 else 0) else 0
theorem e8 {e x y : Int} {M : Mm} (h1 : inR (8 * atN 340 (M.1 103 0) e)) (h2 : inR (8 * atN 340 (M.1 102 0) e)) : Ev 1 8 [.inr (.inr (0, 0)), .inl e, .inl x, .inl y] M (fun v M' => M' = M ∧ v = some (.inl (ovV (M.1 102 0) (M.1 103 0) e x y))) := by
  unfold inR at h1 h2
  show Wp 1 8 0 [some (.inr (.inr (0, 0))), some (.inl e), some (.inl x), some (.inl y)] [] M _
  refine Wp.path (k := 5) [] (C := []) (pc' := 8) (ls' := [some (.inr (.inr (0, 0))), some (.inl e), some (.inl x), some (.inl y)]) (st' := [.inl e, .inr (.inr (103, 0)), .inl 8, .inl x]) (M' := M) rfl trivial ?_
  refine Wp.call (at_103) rfl rfl (by decide) ?_
  rintro v_ M_ ⟨eM_, ev_⟩
  rw [eM_, ev_]
  clear eM_ ev_ v_ M_
  show Wp _ 8 11 [some (.inr (.inr (0, 0))), some (.inl e), some (.inl x), some (.inl y)] [.inl (atN 340 (M.1 103 0) e), .inl 8, .inl x] M _
  rcases Int.lt_or_le (x) (8 * (atN 340 (M.1 103 0) e)) with c_1 | c_1
  ·
    refine Wp.path (k := 2) [0] (C := [inR (8 * (atN 340 (M.1 103 0) e)), x < 8 * (atN 340 (M.1 103 0) e)]) (pc' := 15) (ls' := [some (.inr (.inr (0, 0))), some (.inl e), some (.inl x), some (.inl y)]) (st' := []) (M' := M) rfl ⟨(show inR (8 * (atN 340 (M.1 103 0) e)) from by unfold inR; omega), c_1⟩ ?_
    refine Wp.path (k := 5) [] (C := []) (pc' := 23) (ls' := [some (.inr (.inr (0, 0))), some (.inl e), some (.inl x), some (.inl y)]) (st' := [.inl e, .inr (.inr (102, 0)), .inl 8, .inl y]) (M' := M) rfl trivial ?_
    refine Wp.call (at_102) rfl rfl (by decide) ?_
    rintro v_ M_ ⟨eM_, ev_⟩
    rw [eM_, ev_]
    clear eM_ ev_ v_ M_
    show Wp _ 8 26 [some (.inr (.inr (0, 0))), some (.inl e), some (.inl x), some (.inl y)] [.inl (atN 340 (M.1 102 0) e), .inl 8, .inl y] M _
    rcases Int.lt_or_le (8 * (atN 340 (M.1 102 0) e)) (y) with c_2 | c_2
    ·
      refine Wp.path (k := 2) [0] (C := [inR (8 * (atN 340 (M.1 102 0) e)), 8 * (atN 340 (M.1 102 0) e) < y]) (pc' := 30) (ls' := [some (.inr (.inr (0, 0))), some (.inl e), some (.inl x), some (.inl y)]) (st' := []) (M' := M) rfl ⟨(show inR (8 * (atN 340 (M.1 102 0) e)) from by unfold inR; omega), c_2⟩ ?_
      refine Wp.path (k := 2) [] (C := []) (pc' := 35) (ls' := [some (.inr (.inr (0, 0))), some (.inl e), some (.inl x), some (.inl y)]) (st' := [.inl 1]) (M' := M) rfl trivial ?_
      exact Wp.ret rfl (⟨rfl, by unfold ovV; (repeat' split) <;> first | rfl | (exfalso; omega)⟩)
    ·
      refine Wp.path (k := 2) [1] (C := [inR (8 * (atN 340 (M.1 102 0) e)), y ≤ 8 * (atN 340 (M.1 102 0) e)]) (pc' := 34) (ls' := [some (.inr (.inr (0, 0))), some (.inl e), some (.inl x), some (.inl y)]) (st' := []) (M' := M) rfl ⟨(show inR (8 * (atN 340 (M.1 102 0) e)) from by unfold inR; omega), c_2⟩ ?_
      refine Wp.path (k := 1) [] (C := []) (pc' := 35) (ls' := [some (.inr (.inr (0, 0))), some (.inl e), some (.inl x), some (.inl y)]) (st' := [.inl 0]) (M' := M) rfl trivial ?_
      exact Wp.ret rfl (⟨rfl, by unfold ovV; (repeat' split) <;> first | rfl | (exfalso; omega)⟩)
  ·
    refine Wp.path (k := 2) [1] (C := [inR (8 * (atN 340 (M.1 103 0) e)), 8 * (atN 340 (M.1 103 0) e) ≤ x]) (pc' := 34) (ls' := [some (.inr (.inr (0, 0))), some (.inl e), some (.inl x), some (.inl y)]) (st' := []) (M' := M) rfl ⟨(show inR (8 * (atN 340 (M.1 103 0) e)) from by unfold inR; omega), c_1⟩ ?_
    refine Wp.path (k := 1) [] (C := []) (pc' := 35) (ls' := [some (.inr (.inr (0, 0))), some (.inl e), some (.inl x), some (.inl y)]) (st' := [.inl 0]) (M' := M) rfl trivial ?_
    exact Wp.ret rfl (⟨rfl, by unfold ovV; (repeat' split) <;> first | rfl | (exfalso; omega)⟩)
theorem e2 {e : Int} {M : Mm} (h1 : inR (atN 340 (M.1 100 0) e * 13)) (h2 : inR (atN 340 (M.1 100 0) e * 13 + atN 340 (M.1 101 0) e)) : Ev 2 2 [.inr (.inr (0, 0)), .inl e] M (fun v M' => M' = M ∧ v = some (.inl (atN 340 (M.1 100 0) e * 13 + atN 340 (M.1 101 0) e))) := by
  unfold inR at h1 h2
  show Wp 2 2 0 [some (.inr (.inr (0, 0))), some (.inl e)] [] M _
  refine Wp.path (k := 2) [] (C := []) (pc' := 2) (ls' := [some (.inr (.inr (0, 0))), some (.inl e)]) (st' := [.inl e, .inr (.inr (0, 0))]) (M' := M) rfl trivial ?_
  refine Wp.call (e4) rfl rfl (by decide) ?_
  rintro v_ M_ ⟨eM_, ev_⟩
  rw [eM_, ev_]
  clear eM_ ev_ v_ M_
  show Wp _ 2 5 [some (.inr (.inr (0, 0))), some (.inl e)] [.inl (atN 340 (M.1 100 0) e)] M _
  refine Wp.path (k := 4) [] (C := [inR ((atN 340 (M.1 100 0) e) * 13)]) (pc' := 10) (ls' := [some (.inr (.inr (0, 0))), some (.inl e)]) (st' := [.inl e, .inr (.inr (0, 0)), .inl ((atN 340 (M.1 100 0) e) * 13)]) (M' := M) rfl (show inR ((atN 340 (M.1 100 0) e) * 13) from by unfold inR; omega) ?_
  refine Wp.call (e5) rfl rfl (by decide) ?_
  rintro v_ M_ ⟨eM_, ev_⟩
  rw [eM_, ev_]
  clear eM_ ev_ v_ M_
  show Wp _ 2 13 [some (.inr (.inr (0, 0))), some (.inl e)] [.inl (atN 340 (M.1 101 0) e), .inl ((atN 340 (M.1 100 0) e) * 13)] M _
  refine Wp.path (k := 1) [] (C := [inR (((atN 340 (M.1 100 0) e) * 13) + (atN 340 (M.1 101 0) e))]) (pc' := 14) (ls' := [some (.inr (.inr (0, 0))), some (.inl e)]) (st' := [.inl (((atN 340 (M.1 100 0) e) * 13) + (atN 340 (M.1 101 0) e))]) (M' := M) rfl (show inR (((atN 340 (M.1 100 0) e) * 13) + (atN 340 (M.1 101 0) e)) from by unfold inR; omega) ?_
  exact Wp.ret rfl (⟨rfl, rfl⟩)
def parV (n : Int) (f : Nat → Int) (c : Int) : Int := if 0 ≤ c ∧ c < n then atN 72 f c else -1
theorem e312 {i : Nat} {c : Int} {M : Mm}  : Ev 1 312 [.inr (.inr (3, i)), .inl c] M (fun v M' => M' = M ∧ v = some (.inl (parV (M.1 3 i 10) (M.1 407 i) c))) := by
  show Wp 1 312 0 [some (.inr (.inr (3, i))), some (.inl c)] [] M _
  rcases Int.lt_or_le (c) (0) with c_1 | c_1
  ·
    refine Wp.path (k := 2) [1] (C := [c < 0]) (pc' := 23) (ls' := [some (.inr (.inr (3, i))), some (.inl c)]) (st' := []) (M' := M) rfl c_1 ?_
    refine Wp.path (k := 1) [] (C := []) (pc' := 24) (ls' := [some (.inr (.inr (3, i))), some (.inl c)]) (st' := [.inl (-1)]) (M' := M) rfl trivial ?_
    exact Wp.ret rfl (⟨rfl, by unfold parV; (repeat' split) <;> first | rfl | (exfalso; omega) | (exfalso; simp_all)⟩)
  ·
    refine Wp.path (k := 2) [0] (C := [0 ≤ c]) (pc' := 4) (ls' := [some (.inr (.inr (3, i))), some (.inl c)]) (st' := []) (M' := M) rfl c_1 ?_
    rcases Int.lt_or_le (c) (M.1 3 i 10) with c_2 | c_2
    ·
      refine Wp.path (k := 4) [0] (C := [c < M.1 3 i 10]) (pc' := 12) (ls' := [some (.inr (.inr (3, i))), some (.inl c)]) (st' := []) (M' := M) rfl c_2 ?_
      refine Wp.path (k := 3) [] (C := []) (pc' := 17) (ls' := [some (.inr (.inr (3, i))), some (.inl c)]) (st' := [.inl c, .inr (.inr (407, i))]) (M' := M) rfl trivial ?_
      refine Wp.call (at_407) rfl rfl (by decide) ?_
      rintro v_ M_ ⟨eM_, ev_⟩
      rw [eM_, ev_]
      clear eM_ ev_ v_ M_
      show Wp _ 312 20 [some (.inr (.inr (3, i))), some (.inl c)] [.inl (atN 72 (M.1 407 i) c)] M _
      refine Wp.path (k := 1) [] (C := []) (pc' := 24) (ls' := [some (.inr (.inr (3, i))), some (.inl c)]) (st' := [.inl (atN 72 (M.1 407 i) c)]) (M' := M) rfl trivial ?_
      exact Wp.ret rfl (⟨rfl, by unfold parV; (repeat' split) <;> first | rfl | (exfalso; omega) | (exfalso; simp_all)⟩)
    ·
      refine Wp.path (k := 4) [1] (C := [M.1 3 i 10 ≤ c]) (pc' := 23) (ls' := [some (.inr (.inr (3, i))), some (.inl c)]) (st' := []) (M' := M) rfl c_2 ?_
      refine Wp.path (k := 1) [] (C := []) (pc' := 24) (ls' := [some (.inr (.inr (3, i))), some (.inl c)]) (st' := [.inl (-1)]) (M' := M) rfl trivial ?_
      exact Wp.ret rfl (⟨rfl, by unfold parV; (repeat' split) <;> first | rfl | (exfalso; omega) | (exfalso; simp_all)⟩)
theorem e313 {i : Nat} {c : Int} {M : Mm}  : Ev 1 313 [.inr (.inr (3, i)), .inl c] M (fun v M' => M' = M ∧ v = some (.inl (atN 72 (M.1 408 i) c))) := by
  show Wp 1 313 0 [some (.inr (.inr (3, i))), some (.inl c)] [] M _
  refine Wp.path (k := 3) [] (C := []) (pc' := 5) (ls' := [some (.inr (.inr (3, i))), some (.inl c)]) (st' := [.inl c, .inr (.inr (408, i))]) (M' := M) rfl trivial ?_
  refine Wp.call (at_408) rfl rfl (by decide) ?_
  rintro v_ M_ ⟨eM_, ev_⟩
  rw [eM_, ev_]
  clear eM_ ev_ v_ M_
  show Wp _ 313 8 [some (.inr (.inr (3, i))), some (.inl c)] [.inl (atN 72 (M.1 408 i) c)] M _
  exact Wp.ret rfl (⟨rfl, rfl⟩)
def phV (n p : Int) : Nat := if 0 ≤ p ∧ p < n ∧ p < 12 then p.toNat else 12
theorem e503 {p : Int} {M : Mm}  : Ev 0 503 [.inr (.inr (5, 0)), .inl p] M (fun v M' => M' = M ∧ v = some (.inr (.inr (3, phV (M.1 5 0 11) p)))) := by
  show Wp 0 503 0 [some (.inr (.inr (5, 0))), some (.inl p), none] [] M _
  rcases Int.lt_or_le (p) (0) with c_1 | c_1
  ·
    refine Wp.path (k := 2) [1] (C := [p < 0]) (pc' := 34) (ls' := [some (.inr (.inr (5, 0))), some (.inl p), none]) (st' := []) (M' := M) rfl c_1 ?_
    refine Wp.path (k := 2) [] (C := []) (pc' := 38) (ls' := [some (.inr (.inr (5, 0))), some (.inl p), none]) (st' := [.inr (.inr (3, 12))]) (M' := M) rfl trivial ?_
    exact Wp.ret rfl (⟨rfl, by unfold phV; (repeat' split) <;> first | rfl | (exfalso; omega) | (exfalso; simp_all)⟩)
  ·
    refine Wp.path (k := 2) [0] (C := [0 ≤ p]) (pc' := 4) (ls' := [some (.inr (.inr (5, 0))), some (.inl p), none]) (st' := []) (M' := M) rfl c_1 ?_
    rcases Int.lt_or_le (p) (M.1 5 0 11) with c_2 | c_2
    ·
      refine Wp.path (k := 4) [0] (C := [p < M.1 5 0 11]) (pc' := 12) (ls' := [some (.inr (.inr (5, 0))), some (.inl p), none]) (st' := []) (M' := M) rfl c_2 ?_
      rcases Int.lt_or_le (p) (12) with c_3 | c_3
      ·
        refine Wp.path (k := 5) [0] (C := [p < 12]) (pc' := 21) (ls' := [some (.inr (.inr (5, 0))), some (.inl p), none]) (st' := []) (M' := M) rfl c_3 ?_
        refine Wp.path (k := 8) [] (C := [0 ≤ p ∧ p < 12]) (pc' := 33) (ls' := [some (.inr (.inr (5, 0))), some (.inl p), some (.inr (.inr (3, p.toNat)))]) (st' := [.inr (.inr (3, p.toNat))]) (M' := M) rfl (show 0 ≤ p ∧ p < 12 from ⟨by omega, by omega⟩) ?_
        exact Wp.ret rfl (⟨rfl, by unfold phV; (repeat' split) <;> first | rfl | (exfalso; omega) | (exfalso; simp_all)⟩)
      ·
        refine Wp.path (k := 5) [1] (C := [12 ≤ p]) (pc' := 34) (ls' := [some (.inr (.inr (5, 0))), some (.inl p), none]) (st' := []) (M' := M) rfl c_3 ?_
        refine Wp.path (k := 2) [] (C := []) (pc' := 38) (ls' := [some (.inr (.inr (5, 0))), some (.inl p), none]) (st' := [.inr (.inr (3, 12))]) (M' := M) rfl trivial ?_
        exact Wp.ret rfl (⟨rfl, by unfold phV; (repeat' split) <;> first | rfl | (exfalso; omega) | (exfalso; simp_all)⟩)
    ·
      refine Wp.path (k := 4) [1] (C := [M.1 5 0 11 ≤ p]) (pc' := 34) (ls' := [some (.inr (.inr (5, 0))), some (.inl p), none]) (st' := []) (M' := M) rfl c_2 ?_
      refine Wp.path (k := 2) [] (C := []) (pc' := 38) (ls' := [some (.inr (.inr (5, 0))), some (.inl p), none]) (st' := [.inr (.inr (3, 12))]) (M' := M) rfl trivial ?_
      exact Wp.ret rfl (⟨rfl, by unfold phV; (repeat' split) <;> first | rfl | (exfalso; omega) | (exfalso; simp_all)⟩)
def hpV (n p : Int) : Int := if 0 ≤ p ∧ p < n then 1 else 0
theorem e504 {p : Int} {M : Mm}  : Ev 0 504 [.inr (.inr (5, 0)), .inl p] M (fun v M' => M' = M ∧ v = some (.inl (hpV (M.1 5 0 11) p))) := by
  show Wp 0 504 0 [some (.inr (.inr (5, 0))), some (.inl p)] [] M _
  rcases Int.lt_or_le (p) (0) with c_1 | c_1
  ·
    refine Wp.path (k := 2) [1] (C := [p < 0]) (pc' := 16) (ls' := [some (.inr (.inr (5, 0))), some (.inl p)]) (st' := []) (M' := M) rfl c_1 ?_
    refine Wp.path (k := 1) [] (C := []) (pc' := 17) (ls' := [some (.inr (.inr (5, 0))), some (.inl p)]) (st' := [.inl 0]) (M' := M) rfl trivial ?_
    exact Wp.ret rfl (⟨rfl, by unfold hpV; (repeat' split) <;> first | rfl | (exfalso; omega) | (exfalso; simp_all)⟩)
  ·
    refine Wp.path (k := 2) [0] (C := [0 ≤ p]) (pc' := 4) (ls' := [some (.inr (.inr (5, 0))), some (.inl p)]) (st' := []) (M' := M) rfl c_1 ?_
    rcases Int.lt_or_le (p) (M.1 5 0 11) with c_2 | c_2
    ·
      refine Wp.path (k := 4) [0] (C := [p < M.1 5 0 11]) (pc' := 12) (ls' := [some (.inr (.inr (5, 0))), some (.inl p)]) (st' := []) (M' := M) rfl c_2 ?_
      refine Wp.path (k := 2) [] (C := []) (pc' := 17) (ls' := [some (.inr (.inr (5, 0))), some (.inl p)]) (st' := [.inl 1]) (M' := M) rfl trivial ?_
      exact Wp.ret rfl (⟨rfl, by unfold hpV; (repeat' split) <;> first | rfl | (exfalso; omega) | (exfalso; simp_all)⟩)
    ·
      refine Wp.path (k := 4) [1] (C := [M.1 5 0 11 ≤ p]) (pc' := 16) (ls' := [some (.inr (.inr (5, 0))), some (.inl p)]) (st' := []) (M' := M) rfl c_2 ?_
      refine Wp.path (k := 1) [] (C := []) (pc' := 17) (ls' := [some (.inr (.inr (5, 0))), some (.inl p)]) (st' := [.inl 0]) (M' := M) rfl trivial ?_
      exact Wp.ret rfl (⟨rfl, by unfold hpV; (repeat' split) <;> first | rfl | (exfalso; omega) | (exfalso; simp_all)⟩)
def hcV (n p m c : Int) : Int := if hpV n p = 0 then 0 else if 0 ≤ c ∧ c < m then 1 else 0
theorem e505 {p c : Int} {M : Mm}  : Ev 1 505 [.inr (.inr (5, 0)), .inl p, .inl c] M (fun v M' => M' = M ∧ v = some (.inl (hcV (M.1 5 0 11) p (M.1 2 (phV (M.1 5 0 11) p) 11) c))) := by
  show Wp 1 505 0 [some (.inr (.inr (5, 0))), some (.inl p), some (.inl c)] [] M _
  refine Wp.path (k := 2) [] (C := []) (pc' := 2) (ls' := [some (.inr (.inr (5, 0))), some (.inl p), some (.inl c)]) (st' := [.inl p, .inr (.inr (5, 0))]) (M' := M) rfl trivial ?_
  refine Wp.call (e504) rfl rfl (by decide) ?_
  rintro v_ M_ ⟨eM_, ev_⟩
  rw [eM_, ev_]
  clear eM_ ev_ v_ M_
  show Wp _ 505 5 [some (.inr (.inr (5, 0))), some (.inl p), some (.inl c)] [.inl (hpV (M.1 5 0 11) p)] M _
  rcases Decidable.em (hpV (M.1 5 0 11) p = 0) with c_1 | c_1
  ·
    refine Wp.path (k := 1) [1] (C := [hpV (M.1 5 0 11) p = 0]) (pc' := 31) (ls' := [some (.inr (.inr (5, 0))), some (.inl p), some (.inl c)]) (st' := []) (M' := M) rfl c_1 ?_
    refine Wp.path (k := 1) [] (C := []) (pc' := 32) (ls' := [some (.inr (.inr (5, 0))), some (.inl p), some (.inl c)]) (st' := [.inl 0]) (M' := M) rfl trivial ?_
    exact Wp.ret rfl (⟨rfl, by unfold hcV; (repeat' split) <;> first | rfl | (exfalso; omega) | (exfalso; simp_all)⟩)
  ·
    refine Wp.path (k := 1) [0] (C := [hpV (M.1 5 0 11) p ≠ 0]) (pc' := 8) (ls' := [some (.inr (.inr (5, 0))), some (.inl p), some (.inl c)]) (st' := []) (M' := M) rfl c_1 ?_
    rcases Int.lt_or_le (c) (0) with c_2 | c_2
    ·
      refine Wp.path (k := 2) [1] (C := [c < 0]) (pc' := 31) (ls' := [some (.inr (.inr (5, 0))), some (.inl p), some (.inl c)]) (st' := []) (M' := M) rfl c_2 ?_
      refine Wp.path (k := 1) [] (C := []) (pc' := 32) (ls' := [some (.inr (.inr (5, 0))), some (.inl p), some (.inl c)]) (st' := [.inl 0]) (M' := M) rfl trivial ?_
      exact Wp.ret rfl (⟨rfl, by unfold hcV; (repeat' split) <;> first | rfl | (exfalso; omega) | (exfalso; simp_all)⟩)
    ·
      refine Wp.path (k := 2) [0] (C := [0 ≤ c]) (pc' := 12) (ls' := [some (.inr (.inr (5, 0))), some (.inl p), some (.inl c)]) (st' := []) (M' := M) rfl c_2 ?_
      refine Wp.path (k := 3) [] (C := []) (pc' := 15) (ls' := [some (.inr (.inr (5, 0))), some (.inl p), some (.inl c)]) (st' := [.inl p, .inr (.inr (5, 0)), .inl c]) (M' := M) rfl trivial ?_
      refine Wp.call (e503) rfl rfl (by decide) ?_
      rintro v_ M_ ⟨eM_, ev_⟩
      rw [eM_, ev_]
      clear eM_ ev_ v_ M_
      show Wp _ 505 18 [some (.inr (.inr (5, 0))), some (.inl p), some (.inl c)] [.inr (.inr (3, (phV (M.1 5 0 11) p))), .inl c] M _
      rcases Int.lt_or_le (c) (M.1 2 (phV (M.1 5 0 11) p) 11) with c_3 | c_3
      ·
        refine Wp.path (k := 3) [0] (C := [c < M.1 2 (phV (M.1 5 0 11) p) 11]) (pc' := 27) (ls' := [some (.inr (.inr (5, 0))), some (.inl p), some (.inl c)]) (st' := []) (M' := M) rfl c_3 ?_
        refine Wp.path (k := 2) [] (C := []) (pc' := 32) (ls' := [some (.inr (.inr (5, 0))), some (.inl p), some (.inl c)]) (st' := [.inl 1]) (M' := M) rfl trivial ?_
        exact Wp.ret rfl (⟨rfl, by unfold hcV; (repeat' split) <;> first | rfl | (exfalso; omega) | (exfalso; simp_all)⟩)
      ·
        refine Wp.path (k := 3) [1] (C := [M.1 2 (phV (M.1 5 0 11) p) 11 ≤ c]) (pc' := 31) (ls' := [some (.inr (.inr (5, 0))), some (.inl p), some (.inl c)]) (st' := []) (M' := M) rfl c_3 ?_
        refine Wp.path (k := 1) [] (C := []) (pc' := 32) (ls' := [some (.inr (.inr (5, 0))), some (.inl p), some (.inl c)]) (st' := [.inl 0]) (M' := M) rfl trivial ?_
        exact Wp.ret rfl (⟨rfl, by unfold hcV; (repeat' split) <;> first | rfl | (exfalso; omega) | (exfalso; simp_all)⟩)
def hsV (b s n : Int) : Int := if b = 0 then 0 else if 0 ≤ s ∧ s < n then 1 else 0
theorem e506 {p c s : Int} {M : Mm}  : Ev 2 506 [.inr (.inr (5, 0)), .inl p, .inl c, .inl s] M (fun v M' => M' = M ∧ v = some (.inl (hsV (hcV (M.1 5 0 11) p (M.1 2 (phV (M.1 5 0 11) p) 11) c) s (sofV (M.1 2 (phV (M.1 5 0 11) p) 11) (M.1 301 (phV (M.1 5 0 11) p)) c)))) := by
  show Wp 2 506 0 [some (.inr (.inr (5, 0))), some (.inl p), some (.inl c), some (.inl s)] [] M _
  refine Wp.path (k := 3) [] (C := []) (pc' := 3) (ls' := [some (.inr (.inr (5, 0))), some (.inl p), some (.inl c), some (.inl s)]) (st' := [.inl c, .inl p, .inr (.inr (5, 0))]) (M' := M) rfl trivial ?_
  refine Wp.call (e505) rfl rfl (by decide) ?_
  rintro v_ M_ ⟨eM_, ev_⟩
  rw [eM_, ev_]
  clear eM_ ev_ v_ M_
  show Wp _ 506 6 [some (.inr (.inr (5, 0))), some (.inl p), some (.inl c), some (.inl s)] [.inl (hcV (M.1 5 0 11) p (M.1 2 (phV (M.1 5 0 11) p) 11) c)] M _
  rcases Decidable.em (hcV (M.1 5 0 11) p (M.1 2 (phV (M.1 5 0 11) p) 11) c = 0) with c_1 | c_1
  ·
    refine Wp.path (k := 1) [1] (C := [hcV (M.1 5 0 11) p (M.1 2 (phV (M.1 5 0 11) p) 11) c = 0]) (pc' := 33) (ls' := [some (.inr (.inr (5, 0))), some (.inl p), some (.inl c), some (.inl s)]) (st' := []) (M' := M) rfl c_1 ?_
    refine Wp.path (k := 1) [] (C := []) (pc' := 34) (ls' := [some (.inr (.inr (5, 0))), some (.inl p), some (.inl c), some (.inl s)]) (st' := [.inl 0]) (M' := M) rfl trivial ?_
    exact Wp.ret rfl (⟨rfl, by unfold hsV; (repeat' split) <;> first | rfl | (exfalso; omega) | (exfalso; simp_all)⟩)
  ·
    refine Wp.path (k := 1) [0] (C := [hcV (M.1 5 0 11) p (M.1 2 (phV (M.1 5 0 11) p) 11) c ≠ 0]) (pc' := 9) (ls' := [some (.inr (.inr (5, 0))), some (.inl p), some (.inl c), some (.inl s)]) (st' := []) (M' := M) rfl c_1 ?_
    rcases Int.lt_or_le (s) (0) with c_2 | c_2
    ·
      refine Wp.path (k := 2) [1] (C := [s < 0]) (pc' := 33) (ls' := [some (.inr (.inr (5, 0))), some (.inl p), some (.inl c), some (.inl s)]) (st' := []) (M' := M) rfl c_2 ?_
      refine Wp.path (k := 1) [] (C := []) (pc' := 34) (ls' := [some (.inr (.inr (5, 0))), some (.inl p), some (.inl c), some (.inl s)]) (st' := [.inl 0]) (M' := M) rfl trivial ?_
      exact Wp.ret rfl (⟨rfl, by unfold hsV; (repeat' split) <;> first | rfl | (exfalso; omega) | (exfalso; simp_all)⟩)
    ·
      refine Wp.path (k := 2) [0] (C := [0 ≤ s]) (pc' := 13) (ls' := [some (.inr (.inr (5, 0))), some (.inl p), some (.inl c), some (.inl s)]) (st' := []) (M' := M) rfl c_2 ?_
      refine Wp.path (k := 3) [] (C := []) (pc' := 16) (ls' := [some (.inr (.inr (5, 0))), some (.inl p), some (.inl c), some (.inl s)]) (st' := [.inl p, .inr (.inr (5, 0)), .inl s]) (M' := M) rfl trivial ?_
      refine Wp.call (e503) rfl rfl (by decide) ?_
      rintro v_ M_ ⟨eM_, ev_⟩
      rw [eM_, ev_]
      clear eM_ ev_ v_ M_
      show Wp _ 506 19 [some (.inr (.inr (5, 0))), some (.inl p), some (.inl c), some (.inl s)] [.inr (.inr (3, (phV (M.1 5 0 11) p))), .inl s] M _
      refine Wp.path (k := 2) [] (C := []) (pc' := 23) (ls' := [some (.inr (.inr (5, 0))), some (.inl p), some (.inl c), some (.inl s)]) (st' := [.inl c, .inr (.inr (2, (phV (M.1 5 0 11) p))), .inl s]) (M' := M) rfl trivial ?_
      refine Wp.call (e209) rfl rfl (by decide) ?_
      rintro v_ M_ ⟨eM_, ev_⟩
      rw [eM_, ev_]
      clear eM_ ev_ v_ M_
      show Wp _ 506 26 [some (.inr (.inr (5, 0))), some (.inl p), some (.inl c), some (.inl s)] [.inl (sofV (M.1 2 (phV (M.1 5 0 11) p) 11) (M.1 301 (phV (M.1 5 0 11) p)) c), .inl s] M _
      rcases Int.lt_or_le (s) (sofV (M.1 2 (phV (M.1 5 0 11) p) 11) (M.1 301 (phV (M.1 5 0 11) p)) c) with c_3 | c_3
      ·
        refine Wp.path (k := 1) [0] (C := [s < sofV (M.1 2 (phV (M.1 5 0 11) p) 11) (M.1 301 (phV (M.1 5 0 11) p)) c]) (pc' := 29) (ls' := [some (.inr (.inr (5, 0))), some (.inl p), some (.inl c), some (.inl s)]) (st' := []) (M' := M) rfl c_3 ?_
        refine Wp.path (k := 2) [] (C := []) (pc' := 34) (ls' := [some (.inr (.inr (5, 0))), some (.inl p), some (.inl c), some (.inl s)]) (st' := [.inl 1]) (M' := M) rfl trivial ?_
        exact Wp.ret rfl (⟨rfl, by unfold hsV; (repeat' split) <;> first | rfl | (exfalso; omega) | (exfalso; simp_all)⟩)
      ·
        refine Wp.path (k := 1) [1] (C := [sofV (M.1 2 (phV (M.1 5 0 11) p) 11) (M.1 301 (phV (M.1 5 0 11) p)) c ≤ s]) (pc' := 33) (ls' := [some (.inr (.inr (5, 0))), some (.inl p), some (.inl c), some (.inl s)]) (st' := []) (M' := M) rfl c_3 ?_
        refine Wp.path (k := 1) [] (C := []) (pc' := 34) (ls' := [some (.inr (.inr (5, 0))), some (.inl p), some (.inl c), some (.inl s)]) (st' := [.inl 0]) (M' := M) rfl trivial ?_
        exact Wp.ret rfl (⟨rfl, by unfold hsV; (repeat' split) <;> first | rfl | (exfalso; omega) | (exfalso; simp_all)⟩)
def lvV (sw se nw ne : Int) : Int := if ne ≠ 0 ∧ se = 0 then 0 else if nw ≠ 0 ∧ ne = 0 then 1 else if sw ≠ 0 ∧ nw = 0 then 2 else if se ≠ 0 ∧ sw = 0 then 3 else -1

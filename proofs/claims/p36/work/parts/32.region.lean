/-! a region's rows: size, wipe, copy, change -/
def sumN (g : Nat → Int) : Nat → Int
  | 0 => 0
  | n + 1 => sumN g n + g n
theorem sumN_bd {g : Nat → Int} {B : Int} : ∀ {n : Nat}, (∀ k, k < n → 0 ≤ g k ∧ g k ≤ B) → 0 ≤ sumN g n ∧ sumN g n ≤ B * n
  | 0, _ => ⟨Int.le_refl _, by show (0 : Int) ≤ B * 0; omega⟩
  | n + 1, h => by
    have ih := sumN_bd (n := n) (fun k hk => h k (by omega))
    have hn := h n (by omega)
    show 0 ≤ sumN g n + g n ∧ sumN g n + g n ≤ B * ((n : Int) + 1)
    rw [Int.mul_add]
    omega
theorem sumN_congr {g f : Nat → Int} : ∀ {n : Nat}, (∀ k, k < n → g k = f k) → sumN g n = sumN f n
  | 0, _ => rfl
  | n + 1, h => by
    show sumN g n + g n = sumN f n + f n
    rw [sumN_congr (fun k hk => h k (by omega)), h n (by omega)]
/-- rows of 12 cells -/
def R12 (f : Nat → Int) : Prop := ∀ y, y < 12 → 0 ≤ f y ∧ f y < 4096
def popV (f : Nat → Int) (y : Nat) : Int := (cntB (bZ (f y)) 12 : Int)
def sizeV (f : Nat → Int) : Int := sumN (popV f) 12
theorem popV_bd (f : Nat → Int) (y : Nat) : 0 ≤ popV f y ∧ popV f y ≤ 12 := by
  unfold popV
  have := cntB_le (bZ (f y)) 12
  omega
theorem upTo_k (f g : Nat → Int) (k : Nat) : upTo f g k k = g k := by
  unfold upTo
  rw [if_neg (by omega)]
theorem upTo_same {f g : Nat → Int} {k : Nat} (h : f k = g k) : upTo f g (k + 1) = upTo f g k := by
  funext q
  unfold upTo
  by_cases h1 : q < k
  · rw [if_pos h1, if_pos (by omega)]
  · by_cases h2 : q = k
    · subst h2; rw [if_pos (by omega), if_neg h1, h]
    · rw [if_neg h1, if_neg (by omega)]
theorem atN_in {L : Nat} {f : Nat → Int} {k : Nat} (h : k < L) : atN L f (k : Int) = f k := by
  unfold atN
  rw [if_pos ⟨by omega, by omega⟩, Int.toNat_natCast]
def mskV (x w : Int) : Int := ish (ish 1 w - 1) x
def chV (o x y w h : Int) (f : Nat → Int) : Nat → Int := fun q => if y ≤ (q : Int) ∧ (q : Int) < y + h then cmbV o (f q) (mskV x w) else f q
theorem chV_in {o x y w h : Int} {f : Nat → Int} {q : Nat} (h1 : y ≤ (q : Int)) (h2 : (q : Int) < y + h) : chV o x y w h f q = cmbV o (f q) (mskV x w) := by
  unfold chV
  rw [if_pos ⟨h1, h2⟩]
theorem chV_out {o x y w h : Int} {f : Nat → Int} {q : Nat} (h1 : (q : Int) < y ∨ y + h ≤ (q : Int)) : chV o x y w h f q = f q := by
  unfold chV
  rw [if_neg (by omega)]
set_option maxRecDepth 10000 in
theorem ish1_b : ((List.range 13).all fun k => decide (ish 1 (k : Int) = ((2 ^ k : Nat) : Int))) = true := by decide +kernel
theorem ish1 {k : Int} (h0 : 0 ≤ k) (h1 : k ≤ 12) : 1 ≤ ish 1 k ∧ ish 1 k ≤ 4096 := by
  have h := of_decide_eq_true (List.all_eq_true.mp ish1_b k.toNat (List.mem_range.mpr (by omega)))
  rw [Int.toNat_of_nonneg h0] at h
  rw [h]
  have h2 : 2 ^ k.toNat ≤ 2 ^ 12 := Nat.pow_le_pow_right (by decide) (by omega)
  have h3 : 0 < 2 ^ k.toNat := Nat.pos_of_ne_zero (by simp)
  omega
theorem e402 {i : Nat} {M : Mm} (hR : R12 (M.1 500 i)) : Ev 1 402 [.inr (.inr (4, i))] M (fun v M' => M' = M ∧ v = some (.inl (sizeV (M.1 500 i)))) := by
  show Wp 1 402 0 [some (.inr (.inr (4, i))), none, none] [] M _
  refine Wp.path (k := 4) [] (C := []) (pc' := 4) (ls' := [some (.inr (.inr (4, i))), some (.inl 0), some (.inl 0)]) (st' := []) (M' := M) rfl trivial ?_
  have key_k0 := Wp.for (d := 1) (mi := 402) (pc := 4) (Q := (fun v M' => M' = M ∧ v = some (.inl (sizeV (M.1 500 i))))) 12 (fun k0 : Nat => [some (.inr (.inr (4, i))), some (.inl (sumN (popV (M.1 500 i)) k0)), some (.inl (k0 : Int))]) (fun k0 : Nat => M) (fun k0 hk_k0 h_k0 => ?_) ?_
  ·
    exact key_k0
  ·
    have b1 := sumN_bd (g := popV (M.1 500 i)) (B := 12) (n := k0) (fun q _ => popV_bd _ q)
    have b2 := popV_bd (M.1 500 i) k0
    show Wp 1 402 4 [some (.inr (.inr (4, i))), some (.inl (sumN (popV (M.1 500 i)) k0)), some (.inl (k0 : Int))] [] M (fun v M' => M' = M ∧ v = some (.inl (sizeV (M.1 500 i))))
    refine Wp.path (k := 5) [0] (C := [(k0 : Int) < 12]) (pc' := 13) (ls' := [some (.inr (.inr (4, i))), some (.inl (sumN (popV (M.1 500 i)) k0)), some (.inl (k0 : Int))]) (st' := []) (M' := M) rfl (show (k0 : Int) < 12 from by omega) ?_
    refine Wp.path (k := 5) [] (C := [0 ≤ (k0 : Int) ∧ (k0 : Int) < 12]) (pc' := 20) (ls' := [some (.inr (.inr (4, i))), some (.inl (sumN (popV (M.1 500 i)) k0)), some (.inl (k0 : Int))]) (st' := [.inl (M.1 500 i k0), .inl (sumN (popV (M.1 500 i)) k0)]) (M' := M) rfl (show 0 ≤ (k0 : Int) ∧ (k0 : Int) < 12 from ⟨by omega, by omega⟩) ?_
    refine Wp.call (e1100 (hR k0 hk_k0).1 (hR k0 hk_k0).2) rfl rfl (by decide) ?_
    rintro v_ M_ ⟨eM_, ev_⟩
    rw [eM_, ev_]
    clear eM_ ev_ v_ M_
    show Wp _ 402 23 [some (.inr (.inr (4, i))), some (.inl (sumN (popV (M.1 500 i)) k0)), some (.inl (k0 : Int))] [.inl (popV (M.1 500 i) k0), .inl (sumN (popV (M.1 500 i)) k0)] M _
    refine Wp.path (k := 4) [] (C := [inR ((sumN (popV (M.1 500 i)) k0) + (popV (M.1 500 i) k0)), inR ((k0 : Int) + 1)]) (pc' := 4) (ls' := [some (.inr (.inr (4, i))), some (.inl ((sumN (popV (M.1 500 i)) k0) + (popV (M.1 500 i) k0))), some (.inl ((k0 : Int) + 1))]) (st' := []) (M' := M) rfl ⟨(show inR ((sumN (popV (M.1 500 i)) k0) + (popV (M.1 500 i) k0)) from by unfold inR; omega), (show inR ((k0 : Int) + 1) from by unfold inR; omega)⟩ ?_
    exact h_k0
  ·
    show Wp 1 402 4 [some (.inr (.inr (4, i))), some (.inl (sumN (popV (M.1 500 i)) (12 : Nat))), some (.inl ((12 : Nat) : Int))] [] M (fun v M' => M' = M ∧ v = some (.inl (sizeV (M.1 500 i))))
    refine Wp.path (k := 5) [1] (C := [12 ≤ ((12 : Nat) : Int)]) (pc' := 31) (ls' := [some (.inr (.inr (4, i))), some (.inl (sumN (popV (M.1 500 i)) (12 : Nat))), some (.inl ((12 : Nat) : Int))]) (st' := []) (M' := M) rfl (show 12 ≤ ((12 : Nat) : Int) from by omega) ?_
    refine Wp.path (k := 1) [] (C := []) (pc' := 32) (ls' := [some (.inr (.inr (4, i))), some (.inl (sumN (popV (M.1 500 i)) (12 : Nat))), some (.inl ((12 : Nat) : Int))]) (st' := [.inl (sumN (popV (M.1 500 i)) (12 : Nat))]) (M' := M) rfl trivial ?_
    exact Wp.ret rfl (⟨rfl, rfl⟩)
theorem e403 {i : Nat} {M : Mm}  : Ev 1 403 [.inr (.inr (4, i))] M (fun v M' => M' = setA M 500 i (upTo (fun _ => 0) (M.1 500 i) 12) ∧ v = none) := by
  show Wp 1 403 0 [some (.inr (.inr (4, i)))] [] M _
  refine Wp.path (k := 3) [] (C := []) (pc' := 5) (ls' := [some (.inr (.inr (4, i)))]) (st' := [.inl 0, .inr (.inr (500, i))]) (M' := M) rfl trivial ?_
  refine Wp.call (fill_500) rfl rfl (by decide) ?_
  rintro v_ M_ ⟨eM_, ev_⟩
  rw [eM_, ev_]
  clear eM_ ev_ v_ M_
  show Wp _ 403 8 [some (.inr (.inr (4, i)))] [] (setA M 500 i (upTo (fun _ => 0) (M.1 500 i) 12)) _
  exact Wp.ret rfl (⟨rfl, rfl⟩)
theorem e404 {i j : Nat} {M : Mm} (hij : i ≠ j) : Ev 1 404 [.inr (.inr (4, i)), .inr (.inr (4, j))] M (fun v M' => M' = setA M 500 i (upTo (M.1 500 j) (M.1 500 i) 12) ∧ v = none) := by
  show Wp 1 404 0 [some (.inr (.inr (4, i))), some (.inr (.inr (4, j))), none] [] M _
  refine Wp.path (k := 2) [] (C := []) (pc' := 2) (ls' := [some (.inr (.inr (4, i))), some (.inr (.inr (4, j))), some (.inl 0)]) (st' := []) (M' := M) rfl trivial ?_
  have key_k0 := Wp.for (d := 1) (mi := 404) (pc := 2) (Q := (fun v M' => M' = setA M 500 i (upTo (M.1 500 j) (M.1 500 i) 12) ∧ v = none)) 12 (fun k0 : Nat => [some (.inr (.inr (4, i))), some (.inr (.inr (4, j))), some (.inl (k0 : Int))]) (fun k0 : Nat => setA M 500 i (upTo (M.1 500 j) (M.1 500 i) k0)) (fun k0 hk_k0 h_k0 => ?_) ?_
  ·
    rw [fill_0] at key_k0
    exact key_k0
  ·
    show Wp 1 404 2 [some (.inr (.inr (4, i))), some (.inr (.inr (4, j))), some (.inl (k0 : Int))] [] (setA M 500 i (upTo (M.1 500 j) (M.1 500 i) k0)) (fun v M' => M' = setA M 500 i (upTo (M.1 500 j) (M.1 500 i) 12) ∧ v = none)
    refine Wp.path (k := 5) [0] (C := [(k0 : Int) < 12]) (pc' := 11) (ls' := [some (.inr (.inr (4, i))), some (.inr (.inr (4, j))), some (.inl (k0 : Int))]) (st' := []) (M' := setA M 500 i (upTo (M.1 500 j) (M.1 500 i) k0)) rfl (show (k0 : Int) < 12 from by omega) ?_
    refine Wp.path (k := 6) [] (C := []) (pc' := 21) (ls' := [some (.inr (.inr (4, i))), some (.inr (.inr (4, j))), some (.inl (k0 : Int))]) (st' := [.inl (k0 : Int), .inr (.inr (500, j)), .inl (k0 : Int), .inr (.inr (500, i))]) (M' := setA M 500 i (upTo (M.1 500 j) (M.1 500 i) k0)) rfl trivial ?_
    refine Wp.call (at_500) rfl rfl (by decide) ?_
    rintro v_ M_ ⟨eM_, ev_⟩
    rw [eM_, ev_]
    clear eM_ ev_ v_ M_
    show Wp _ 404 24 [some (.inr (.inr (4, i))), some (.inr (.inr (4, j))), some (.inl (k0 : Int))] [.inl (atN 12 ((setA M 500 i (upTo (M.1 500 j) (M.1 500 i) k0)).1 500 j) (k0 : Int)), .inl (k0 : Int), .inr (.inr (500, i))] (setA M 500 i (upTo (M.1 500 j) (M.1 500 i) k0)) _
    refine Wp.path (k := 3) [] (C := [0 ≤ (k0 : Int) ∧ (k0 : Int) < 12, inR ((k0 : Int) + 1)]) (pc' := 2) (ls' := [some (.inr (.inr (4, i))), some (.inr (.inr (4, j))), some (.inl ((k0 : Int) + 1))]) (st' := []) (M' := setI (setA M 500 i (upTo (M.1 500 j) (M.1 500 i) k0)) 500 i k0 (atN 12 ((setA M 500 i (upTo (M.1 500 j) (M.1 500 i) k0)).1 500 j) (k0 : Int))) rfl ⟨(show 0 ≤ (k0 : Int) ∧ (k0 : Int) < 12 from ⟨by omega, by omega⟩), (show inR ((k0 : Int) + 1) from by unfold inR; omega)⟩ ?_
    rw [setA_ne (fun e => hij e.2.symm), atN_in hk_k0, fill_step]
    exact h_k0
  ·
    show Wp 1 404 2 [some (.inr (.inr (4, i))), some (.inr (.inr (4, j))), some (.inl ((12 : Nat) : Int))] [] (setA M 500 i (upTo (M.1 500 j) (M.1 500 i) 12)) (fun v M' => M' = setA M 500 i (upTo (M.1 500 j) (M.1 500 i) 12) ∧ v = none)
    refine Wp.path (k := 5) [1] (C := [12 ≤ ((12 : Nat) : Int)]) (pc' := 31) (ls' := [some (.inr (.inr (4, i))), some (.inr (.inr (4, j))), some (.inl ((12 : Nat) : Int))]) (st' := []) (M' := setA M 500 i (upTo (M.1 500 j) (M.1 500 i) 12)) rfl (show 12 ≤ ((12 : Nat) : Int) from by omega) ?_
    exact Wp.ret rfl (⟨rfl, rfl⟩)
theorem e405 {i : Nat} {o x y w h : Int} {M : Mm} (hx : 0 ≤ x) (hy : 0 ≤ y) (hw : 0 ≤ w) (hh : 0 ≤ h) (hxw : x + w ≤ 12) (hyh : y + h ≤ 12) : Ev 1 405 [.inr (.inr (4, i)), .inl o, .inl x, .inl y, .inl w, .inl h] M (fun v M' => M' = setA M 500 i (upTo (chV o x y w h (M.1 500 i)) (M.1 500 i) 12) ∧ v = none) := by
  have b1 := ish1 hw (by omega)
  show Wp 1 405 0 [some (.inr (.inr (4, i))), some (.inl o), some (.inl x), some (.inl y), some (.inl w), some (.inl h), none, none] [] M _
  refine Wp.path (k := 10) [] (C := [inR ((ish 1 w) - 1)]) (pc' := 13) (ls' := [some (.inr (.inr (4, i))), some (.inl o), some (.inl x), some (.inl y), some (.inl w), some (.inl h), some (.inl (ish ((ish 1 w) - 1) x)), some (.inl 0)]) (st' := []) (M' := M) rfl (show inR ((ish 1 w) - 1) from by unfold inR; omega) ?_
  have key_k0 := Wp.for (d := 1) (mi := 405) (pc := 13) (Q := (fun v M' => M' = setA M 500 i (upTo (chV o x y w h (M.1 500 i)) (M.1 500 i) 12) ∧ v = none)) 12 (fun k0 : Nat => [some (.inr (.inr (4, i))), some (.inl o), some (.inl x), some (.inl y), some (.inl w), some (.inl h), some (.inl (ish ((ish 1 w) - 1) x)), some (.inl (k0 : Int))]) (fun k0 : Nat => setA M 500 i (upTo (chV o x y w h (M.1 500 i)) (M.1 500 i) k0)) (fun k0 hk_k0 h_k0 => ?_) ?_
  ·
    rw [fill_0] at key_k0
    exact key_k0
  ·
    show Wp 1 405 13 [some (.inr (.inr (4, i))), some (.inl o), some (.inl x), some (.inl y), some (.inl w), some (.inl h), some (.inl (ish ((ish 1 w) - 1) x)), some (.inl (k0 : Int))] [] (setA M 500 i (upTo (chV o x y w h (M.1 500 i)) (M.1 500 i) k0)) (fun v M' => M' = setA M 500 i (upTo (chV o x y w h (M.1 500 i)) (M.1 500 i) 12) ∧ v = none)
    refine Wp.path (k := 5) [0] (C := [(k0 : Int) < 12]) (pc' := 23) (ls' := [some (.inr (.inr (4, i))), some (.inl o), some (.inl x), some (.inl y), some (.inl w), some (.inl h), some (.inl (ish ((ish 1 w) - 1) x)), some (.inl (k0 : Int))]) (st' := []) (M' := setA M 500 i (upTo (chV o x y w h (M.1 500 i)) (M.1 500 i) k0)) rfl (show (k0 : Int) < 12 from by omega) ?_
    rcases Int.lt_or_le ((k0 : Int)) (y) with c_1 | c_1
    ·
      refine Wp.path (k := 3) [1] (C := [(k0 : Int) < y]) (pc' := 58) (ls' := [some (.inr (.inr (4, i))), some (.inl o), some (.inl x), some (.inl y), some (.inl w), some (.inl h), some (.inl (ish ((ish 1 w) - 1) x)), some (.inl (k0 : Int))]) (st' := []) (M' := setA M 500 i (upTo (chV o x y w h (M.1 500 i)) (M.1 500 i) k0)) rfl c_1 ?_
      refine Wp.path (k := 2) [] (C := [inR ((k0 : Int) + 1)]) (pc' := 13) (ls' := [some (.inr (.inr (4, i))), some (.inl o), some (.inl x), some (.inl y), some (.inl w), some (.inl h), some (.inl (ish ((ish 1 w) - 1) x)), some (.inl ((k0 : Int) + 1))]) (st' := []) (M' := setA M 500 i (upTo (chV o x y w h (M.1 500 i)) (M.1 500 i) k0)) rfl (show inR ((k0 : Int) + 1) from by unfold inR; omega) ?_
      first
        | (rw [setA_at, upTo_k, show cmbV o (M.1 500 i k0) (ish (ish 1 w - 1) x) = chV o x y w h (M.1 500 i) k0 from (chV_in (by omega) (by omega)).symm, fill_step]; exact h_k0)
        | (rw [upTo_same (chV_out (by omega))] at h_k0; exact h_k0)
    ·
      refine Wp.path (k := 3) [0] (C := [y ≤ (k0 : Int)]) (pc' := 29) (ls' := [some (.inr (.inr (4, i))), some (.inl o), some (.inl x), some (.inl y), some (.inl w), some (.inl h), some (.inl (ish ((ish 1 w) - 1) x)), some (.inl (k0 : Int))]) (st' := []) (M' := setA M 500 i (upTo (chV o x y w h (M.1 500 i)) (M.1 500 i) k0)) rfl c_1 ?_
      rcases Int.lt_or_le ((k0 : Int)) (y + h) with c_2 | c_2
      ·
        refine Wp.path (k := 5) [0] (C := [inR (y + h), (k0 : Int) < y + h]) (pc' := 38) (ls' := [some (.inr (.inr (4, i))), some (.inl o), some (.inl x), some (.inl y), some (.inl w), some (.inl h), some (.inl (ish ((ish 1 w) - 1) x)), some (.inl (k0 : Int))]) (st' := []) (M' := setA M 500 i (upTo (chV o x y w h (M.1 500 i)) (M.1 500 i) k0)) rfl ⟨(show inR (y + h) from by unfold inR; omega), c_2⟩ ?_
        refine Wp.path (k := 9) [] (C := [0 ≤ (k0 : Int) ∧ (k0 : Int) < 12]) (pc' := 54) (ls' := [some (.inr (.inr (4, i))), some (.inl o), some (.inl x), some (.inl y), some (.inl w), some (.inl h), some (.inl (ish ((ish 1 w) - 1) x)), some (.inl (k0 : Int))]) (st' := [.inl (ish ((ish 1 w) - 1) x), .inl ((setA M 500 i (upTo (chV o x y w h (M.1 500 i)) (M.1 500 i) k0)).1 500 i k0), .inl o, .inl (k0 : Int), .inr (.inr (500, i))]) (M' := setA M 500 i (upTo (chV o x y w h (M.1 500 i)) (M.1 500 i) k0)) rfl (show 0 ≤ (k0 : Int) ∧ (k0 : Int) < 12 from ⟨by omega, by omega⟩) ?_
        refine Wp.call (e406) rfl rfl (by decide) ?_
        rintro v_ M_ ⟨eM_, ev_⟩
        rw [eM_, ev_]
        clear eM_ ev_ v_ M_
        show Wp _ 405 57 [some (.inr (.inr (4, i))), some (.inl o), some (.inl x), some (.inl y), some (.inl w), some (.inl h), some (.inl (ish ((ish 1 w) - 1) x)), some (.inl (k0 : Int))] [.inl (cmbV o ((setA M 500 i (upTo (chV o x y w h (M.1 500 i)) (M.1 500 i) k0)).1 500 i k0) (ish ((ish 1 w) - 1) x)), .inl (k0 : Int), .inr (.inr (500, i))] (setA M 500 i (upTo (chV o x y w h (M.1 500 i)) (M.1 500 i) k0)) _
        refine Wp.path (k := 3) [] (C := [0 ≤ (k0 : Int) ∧ (k0 : Int) < 12, inR ((k0 : Int) + 1)]) (pc' := 13) (ls' := [some (.inr (.inr (4, i))), some (.inl o), some (.inl x), some (.inl y), some (.inl w), some (.inl h), some (.inl (ish ((ish 1 w) - 1) x)), some (.inl ((k0 : Int) + 1))]) (st' := []) (M' := setI (setA M 500 i (upTo (chV o x y w h (M.1 500 i)) (M.1 500 i) k0)) 500 i k0 (cmbV o ((setA M 500 i (upTo (chV o x y w h (M.1 500 i)) (M.1 500 i) k0)).1 500 i k0) (ish ((ish 1 w) - 1) x))) rfl ⟨(show 0 ≤ (k0 : Int) ∧ (k0 : Int) < 12 from ⟨by omega, by omega⟩), (show inR ((k0 : Int) + 1) from by unfold inR; omega)⟩ ?_
        first
          | (rw [setA_at, upTo_k, show cmbV o (M.1 500 i k0) (ish (ish 1 w - 1) x) = chV o x y w h (M.1 500 i) k0 from (chV_in (by omega) (by omega)).symm, fill_step]; exact h_k0)
          | (rw [upTo_same (chV_out (by omega))] at h_k0; exact h_k0)
      ·
        refine Wp.path (k := 5) [1] (C := [inR (y + h), y + h ≤ (k0 : Int)]) (pc' := 58) (ls' := [some (.inr (.inr (4, i))), some (.inl o), some (.inl x), some (.inl y), some (.inl w), some (.inl h), some (.inl (ish ((ish 1 w) - 1) x)), some (.inl (k0 : Int))]) (st' := []) (M' := setA M 500 i (upTo (chV o x y w h (M.1 500 i)) (M.1 500 i) k0)) rfl ⟨(show inR (y + h) from by unfold inR; omega), c_2⟩ ?_
        refine Wp.path (k := 2) [] (C := [inR ((k0 : Int) + 1)]) (pc' := 13) (ls' := [some (.inr (.inr (4, i))), some (.inl o), some (.inl x), some (.inl y), some (.inl w), some (.inl h), some (.inl (ish ((ish 1 w) - 1) x)), some (.inl ((k0 : Int) + 1))]) (st' := []) (M' := setA M 500 i (upTo (chV o x y w h (M.1 500 i)) (M.1 500 i) k0)) rfl (show inR ((k0 : Int) + 1) from by unfold inR; omega) ?_
        first
          | (rw [setA_at, upTo_k, show cmbV o (M.1 500 i k0) (ish (ish 1 w - 1) x) = chV o x y w h (M.1 500 i) k0 from (chV_in (by omega) (by omega)).symm, fill_step]; exact h_k0)
          | (rw [upTo_same (chV_out (by omega))] at h_k0; exact h_k0)
  ·
    show Wp 1 405 13 [some (.inr (.inr (4, i))), some (.inl o), some (.inl x), some (.inl y), some (.inl w), some (.inl h), some (.inl (ish ((ish 1 w) - 1) x)), some (.inl ((12 : Nat) : Int))] [] (setA M 500 i (upTo (chV o x y w h (M.1 500 i)) (M.1 500 i) 12)) (fun v M' => M' = setA M 500 i (upTo (chV o x y w h (M.1 500 i)) (M.1 500 i) 12) ∧ v = none)
    refine Wp.path (k := 5) [1] (C := [12 ≤ ((12 : Nat) : Int)]) (pc' := 64) (ls' := [some (.inr (.inr (4, i))), some (.inl o), some (.inl x), some (.inl y), some (.inl w), some (.inl h), some (.inl (ish ((ish 1 w) - 1) x)), some (.inl ((12 : Nat) : Int))]) (st' := []) (M' := setA M 500 i (upTo (chV o x y w h (M.1 500 i)) (M.1 500 i) 12)) rfl (show 12 ≤ ((12 : Nat) : Int) from by omega) ?_
    exact Wp.ret rfl (⟨rfl, rfl⟩)

/-! the reference: sides, edges -/
def MdP (M : Mm) (p n : Nat) (st : Nat → Nat) (xs ys : Nat → Int) : Prop := M.1 1124 0 p = n ∧ (∀ c, c ≤ n → M.1 1125 0 (161 * p + c) = st c) ∧ ∀ i, i < st n → M.1 1127 0 (640 * p + i) = xs i ∧ M.1 1128 0 (640 * p + i) = ys i
theorem MdP.fx {M M' : Mm} {p n : Nat} {st : Nat → Nat} {xs ys : Nat → Int} (h : MdP M p n st xs ys) (e : M'.1 1124 0 = M.1 1124 0 ∧ M'.1 1125 0 = M.1 1125 0 ∧ M'.1 1127 0 = M.1 1127 0 ∧ M'.1 1128 0 = M.1 1128 0) : MdP M' p n st xs ys := by
  obtain ⟨e1, e2, e3, e4⟩ := e
  unfold MdP
  rw [e1, e2, e3, e4]
  exact h
def LN (P : Int → Int → Bool) (T : Nat) (xs ys : Nat → Int) (ln : Nat → Nat) : Prop := ∀ i, i < T → RunN P (xs i) (ys i) (lvd P (xs i) (ys i)) (ln i)
theorem LN.ex {P : Int → Int → Bool} {n : Nat} {st : Nat → Nat} {xs ys : Nat → Int} (h : Ct P n st xs ys) : ∃ ln, LN P (st n) xs ys ln := by
  have key : ∀ i : Nat, ∃ N : Nat, i < st n → RunN P (xs i) (ys i) (lvd P (xs i) (ys i)) N := by
    intro i
    by_cases hi : i < st n
    · obtain ⟨c, h1, h2, h3⟩ := h.find hi
      obtain ⟨N, hN, -⟩ := ((h.2.1 c h1).2.1 i h2 h3).2
      exact ⟨N, fun _ => hN⟩
    · exact ⟨0, fun h => absurd h hi⟩
  obtain ⟨ln, hln⟩ := Classical.axiomOfChoice key
  exact ⟨ln, fun i hi => hln i hi⟩
/-- the point behind a side -/
theorem LN.nx {P : Int → Int → Bool} {n : Nat} {st : Nat → Nat} {xs ys : Nat → Int} {ln : Nat → Nat} (h : Ct P n st xs ys) (hl : LN P (st n) xs ys ln) {c i : Nat} (hc : c < n) (h1 : st c ≤ i) (h2 : i < st (c + 1)) : xs (nxi (st c) (st (c + 1)) i) = xs i + ln i * stepXV (lvd P (xs i) (ys i)) ∧ ys (nxi (st c) (st (c + 1)) i) = ys i + ln i * stepYV (lvd P (xs i) (ys i)) := by
  have hi : i < st n := by
    have := h.mono (c := c + 1) (d := n) (by omega) (Nat.le_refl n)
    omega
  obtain ⟨N, hN, e1, e2⟩ := ((h.2.1 c hc).2.1 i h1 h2).2
  rw [(hl i hi).un hN]
  exact ⟨e1, e2⟩
theorem c1039 {p c i n : Nat} {P : Int → Int → Bool} {st : Nat → Nat} {xs ys : Nat → Int} {ln : Nat → Nat} {M : Mm} {Q : Mm → Prop} (hp : p < 12) (hD : NoD P) (hct : Ct P n st xs ys) (hln : LN P (st n) xs ys ln) (hc : c < n) (hn : n ≤ 78) (hT : st n ≤ 312) (hM : MdP M p n st xs ys) (hi : st c + i < st (c + 1))
    (hQ : ∀ M', Fx (fun t j => t = 10 ∧ j = 0) M M' → M'.1 10 0 30 = lvd P (xs (st c + i)) (ys (st c + i)) → M'.1 10 0 31 = linS (lvd P (xs (st c + i)) (ys (st c + i))) (xs (st c + i)) (ys (st c + i)) → M'.1 10 0 32 = loS (lvd P (xs (st c + i)) (ys (st c + i))) (xs (st c + i)) (ys (st c + i)) (ln (st c + i)) → M'.1 10 0 33 = hiS (lvd P (xs (st c + i)) (ys (st c + i))) (xs (st c + i)) (ys (st c + i)) (ln (st c + i)) → (∀ q, (q < 30 ∨ 33 < q) → M'.1 10 0 q = M.1 10 0 q) → Q M') : E_1039 (p : Int) (c : Int) (i : Int) M Q := by
  have m1 := hct.mono (c := c + 1) (d := n) (by omega) (Nat.le_refl n)
  have m0 := (hct.2.1 c hc).1
  obtain ⟨hM1, hM2, hM3⟩ := hM
  have v0 : stV (M.1 1125 0) (p : Int) (c : Int) = st c := by
    unfold stV
    rw [show (161 * (p : Int) + (c : Int)).toNat = 161 * p + c by omega]
    exact hM2 c (by omega)
  have v1 : szV (M.1 1125 0) (p : Int) (c : Int) = ((st (c + 1) - st c : Nat) : Int) := by
    unfold szV
    rw [v0]
    unfold stV
    rw [show (161 * (p : Int) + ((c : Int) + 1)).toNat = 161 * p + (c + 1) by omega, hM2 (c + 1) (by omega)]
    omega
  have hd := (bn_lv hD (hct.bend (show st c + i < st n by omega))).dir
  have hN := hln (st c + i) (by omega)
  have hnx := LN.nx hct hln hc (show st c ≤ st c + i by omega) hi
  refine s_1039_0 ?_
  rw [v0, v1]
  refine ⟨⟨by omega, by omega, by omega, by omega, by unfold inR; omega⟩, fun L eL => ⟨by omega, ⟨by omega, by omega, by omega, by omega⟩, ⟨by omega, by omega⟩, fun a ea => ⟨by omega, ⟨by omega, by omega, by omega, by omega⟩, ⟨by omega, by omega, by omega⟩, fun q eq => ?_⟩⟩⟩
  rw [tmod_p (by omega), eL] at eq
  have eq2 : (st c : Int) + q = (nxi (st c) (st (c + 1)) (st c + i) : Nat) := by
    unfold nxi
    by_cases e : st c + i + 1 = st (c + 1)
    · rw [if_pos e, eq]
      rw [show (i : Int) + 1 = ((st (c + 1) - st c : Nat) : Int) by omega, Int.emod_self]
      omega
    · rw [if_neg e, eq, Int.emod_eq_of_lt (by omega) (by omega)]
      omega
  have hnlt : nxi (st c) (st (c + 1)) (st c + i) < st n := by unfold nxi; split <;> omega
  refine ⟨by omega, fun b eb => ?_⟩
  have ia : a.toNat = 640 * p + (st c + i) := by omega
  have ib : b.toNat = 640 * p + nxi (st c) (st (c + 1)) (st c + i) := by omega
  rw [ia, ib, (hM3 (st c + i) (by omega)).1, (hM3 (st c + i) (by omega)).2, (hM3 _ hnlt).1, (hM3 _ hnlt).2, hnx.1, hnx.2]
  refine ⟨by omega, fun f ef => ⟨fun _ => by omega, fun _ => by omega, fun fr efr => ⟨fun _ => by omega, fun _ => by omega, fun to eto dr edr M1 e1 => ⟨fun _ => by omega, fun _ => by omega, fun li eli M2 e2 lo elo M3 e3 hi ehi M4 e4 => ?_⟩⟩⟩⟩
  have x1 : M1.1 1127 0 = M.1 1127 0 := by rw [e1, setI_ne (by omega)]
  have x2 : M1.1 1128 0 = M.1 1128 0 := by rw [e1, setI_ne (by omega)]
  rw [x1, x2, (hM3 (st c + i) (by omega)).1, (hM3 (st c + i) (by omega)).2] at eli
  have q10 : M4.1 10 0 = ups (ups (ups (ups (M.1 10 0) 30 dr) 31 li) 32 lo) 33 hi := by rw [e4, setI_at, e3, setI_at, e2, setI_at, e1, setI_at]
  have h0 := hN.1
  generalize hx : xs (st c + i) = x at *
  generalize hy : ys (st c + i) = y at *
  generalize hl : ln (st c + i) = N at *
  generalize lvd P x y = d at *
  have vals : dr = d ∧ li = linS d x y ∧ lo = loS d x y N ∧ hi = hiS d x y N := by
    rw [edr, eli, elo, ehi, eto, efr, ef]
    unfold linS loS hiS algS risS levV
    rcases step_cases hd with ⟨rfl, u, v⟩ | ⟨rfl, u, v⟩ | ⟨rfl, u, v⟩ | ⟨rfl, u, v⟩ <;> rw [u, v] <;> simp <;> omega
  obtain ⟨w1, w2, w3, w4⟩ := vals
  refine hQ M4 ?_ ?_ ?_ ?_ ?_ fun q hq => ?_
  · rw [e4, e3, e2, e1]
    exact (((Fx.setI ⟨rfl, rfl⟩).tr (Fx.setI ⟨rfl, rfl⟩)).tr (Fx.setI ⟨rfl, rfl⟩)).tr (Fx.setI ⟨rfl, rfl⟩)
  · rw [q10, ups_ne (by omega), ups_ne (by omega), ups_ne (by omega), ups_at, w1]
  · rw [q10, ups_ne (by omega), ups_ne (by omega), ups_at, w2]
  · rw [q10, ups_ne (by omega), ups_at, w3]
  · rw [q10, ups_at, w4]
  · rw [q10, ups_ne (by omega), ups_ne (by omega), ups_ne (by omega), ups_ne (by omega)]

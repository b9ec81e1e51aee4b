/-! the text grows -/
def byt (x : Int) (i : Nat) : Int := ian (ius x (24 - 8 * (i : Int))) 255
def txOk (x : Int) : Prop := ∀ i, i < 4 → byt x i = 0 ∨ (33 ≤ byt x i ∧ byt x i ≤ 126)
def txN (x : Int) (n : Nat) : Nat := cntB (fun i => decide (byt x i ≠ 0)) n
theorem txN_y {x : Int} {n : Nat} (h : byt x n ≠ 0) : txN x (n + 1) = txN x n + 1 := cntB_y (decide_eq_true h)
theorem txN_n {x : Int} {n : Nat} (h : byt x n = 0) : txN x (n + 1) = txN x n := cntB_n (decide_eq_false (fun g => g h))
theorem txN_le (x : Int) (n : Nat) : txN x n ≤ n := cntB_le _ _
theorem txN_mono (x : Int) {n m : Nat} (h : n ≤ m) : txN x n ≤ txN x m := cntB_mono h
def apS (x : Int) (s : Nat → Int) (l : Nat) : Nat → Nat → Int
  | 0 => s
  | n + 1 => if byt x n = 0 then apS x s l n else ups (apS x s l n) (l + txN x n) (byt x n)
theorem apS_cg {x : Int} {s s' : Nat → Int} {l : Nat} (h : ∀ i, i < l → s i = s' i) : ∀ n i, i < l + txN x n → apS x s l n i = apS x s' l n i
  | 0, i, hi => h i hi
  | n + 1, i, hi => by
    unfold apS
    by_cases q : byt x n = 0
    · rw [if_pos q, if_pos q]
      rw [txN_n q] at hi
      exact apS_cg h n i hi
    · rw [if_neg q, if_neg q]
      rw [txN_y q] at hi
      by_cases e : i = l + txN x n
      · rw [e, ups_at, ups_at]
      · rw [ups_ne e, ups_ne e]
        exact apS_cg h n i (by omega)
theorem c601 {x : Int} {M : Mm} {Q : Int → Mm → Prop} (h1 : txOk x → Q 1 M) (h0 : ¬ txOk x → Q 0 M) : E_601 x M Q := by
  refine s_601_0 ?_
  have key : ∀ r i : Nat, i + r = 4 → (∀ j, j < i → byt x j = 0 ∨ (33 ≤ byt x j ∧ byt x j ≤ 126)) → L_601_3 x (24 - 8 * (i : Int)) M Q := by
    intro r
    induction r with
    | zero =>
      intro i hi hn
      exact s_601_3 ⟨fun _ => h1 fun j hj => hn j (by omega), fun h => by omega⟩
    | succ r ih =>
      intro i hi hn
      have nx : (byt x i = 0 ∨ (33 ≤ byt x i ∧ byt x i ≤ 126)) → L_601_3 x (24 - 8 * (i : Int) + (-8)) M Q := fun hb => by
        have := ih (i + 1) (by omega) fun j hj => by
          by_cases q : j = i
          · rw [q]; exact hb
          · exact hn j (by omega)
        rwa [show 24 - 8 * ((i + 1 : Nat) : Int) = 24 - 8 * (i : Int) + (-8) by omega] at this
      refine s_601_3 ⟨fun h => by omega, fun _ b eb => ?_⟩
      have eb' : b = byt x i := eb
      rw [eb']
      refine ⟨fun hz => ⟨by omega, nx (Or.inl hz)⟩, fun hz => ⟨fun hl => h0 fun g => ?_, fun hl => ⟨fun hu => ⟨by omega, nx (Or.inr ⟨hl, hu⟩)⟩, fun hu => h0 fun g => ?_⟩⟩⟩
      · have := g i (by omega); omega
      · have := g i (by omega); omega
  exact key 4 0 (by omega) fun j h => absurd h (Nat.not_lt_zero j)
theorem c602 {x : Int} {M : Mm} {Q : Int → Mm → Prop} (hQ : Q (txN x 4) M) : E_602 x M Q := by
  refine s_602_0 ?_
  have key : ∀ r i : Nat, i + r = 4 → L_602_5 x (txN x i : Int) (24 - 8 * (i : Int)) M Q := by
    intro r
    induction r with
    | zero =>
      intro i hi
      have e : i = 4 := by omega
      refine s_602_5 ⟨fun _ => by rw [e]; exact hQ, fun h => by omega⟩
    | succ r ih =>
      intro i hi
      have hle := txN_le x i
      refine s_602_5 ⟨fun h => by omega, fun _ => ⟨fun _ => by omega, fun y ey => ⟨by omega, ?_⟩⟩⟩
      have ey' : y = if byt x i = 0 then (txN x i : Int) else (txN x i : Int) + 1 := ey
      have e : y = (txN x (i + 1) : Int) := by
        rw [ey']
        by_cases q : byt x i = 0
        · rw [if_pos q, txN_n q]
        · rw [if_neg q, txN_y q]; omega
      rw [e]
      have := ih (i + 1) (by omega)
      rwa [show 24 - 8 * ((i + 1 : Nat) : Int) = 24 - 8 * (i : Int) + (-8) by omega] at this
  exact key 4 0 (by omega)
theorem c603 {x : Int} {l : Nat} {M : Mm} {Q : Mm → Prop} (h3 : M.1 6 0 3 = l) (h60 : l + txN x 4 ≤ 60) (hQ : ∀ M', Fx (fun t j => (t = 6 ∨ t = 700) ∧ j = 0) M M' → M'.1 6 0 3 = (l + txN x 4 : Nat) → (∀ q, q ≠ 3 → M'.1 6 0 q = M.1 6 0 q) → M'.1 700 0 = apS x (M.1 700 0) l 4 → Q M') : E_603 x M Q := by
  refine s_603_0 ?_
  have key : ∀ (r i : Nat) (M' : Mm), i + r = 4 → Fx (fun t j => (t = 6 ∨ t = 700) ∧ j = 0) M M' → M'.1 6 0 3 = (l + txN x i : Nat) → (∀ q, q ≠ 3 → M'.1 6 0 q = M.1 6 0 q) → M'.1 700 0 = apS x (M.1 700 0) l i → L_603_3 x (24 - 8 * (i : Int)) M' Q := by
    intro r
    induction r with
    | zero =>
      intro i M' hi hf g3 gq gs
      have e : i = 4 := by omega
      rw [e] at g3 gs
      exact s_603_3 ⟨fun _ => hQ M' hf g3 gq gs, fun h => by omega⟩
    | succ r ih =>
      intro i M' hi hf g3 gq gs
      have hm := txN_mono x (show i + 1 ≤ 4 by omega)
      refine s_603_3 ⟨fun h => by omega, fun _ b eb => ?_⟩
      have eb' : b = byt x i := eb
      rw [eb', g3]
      refine ⟨fun hz => ⟨by omega, ?_⟩, fun hz => ⟨fun h => by omega, fun _ => ⟨fun h => ?_, fun _ => ⟨by omega, fun M1 e1 => ?_⟩⟩⟩⟩
      · have := ih (i + 1) M' (by omega) hf (by rw [g3, txN_n hz]) gq (by rw [gs]; unfold apS; rw [if_pos hz]; cases i <;> rfl)
        rwa [show 24 - 8 * ((i + 1 : Nat) : Int) = 24 - 8 * (i : Int) + (-8) by omega] at this
      · rw [txN_y hz] at hm; omega
      · rw [Int.toNat_natCast] at e1
        have q3 : M1.1 6 0 3 = (l + txN x i : Nat) := by rw [e1, setI_ne (by omega)]; exact g3
        rw [q3]
        refine ⟨by rw [txN_y hz] at hm; omega, fun M2 e2 => ⟨by omega, ?_⟩⟩
        have q6 : M2.1 6 0 = ups (M'.1 6 0) 3 (((l + txN x i : Nat) : Int) + 1) := by rw [e2, setI_at, e1, setI_ne (by omega)]
        have q7 : M2.1 700 0 = ups (apS x (M.1 700 0) l i) (l + txN x i) (byt x i) := by rw [e2, setI_ne (by omega), e1, setI_at, gs]
        have := ih (i + 1) M2 (by omega) (hf.tr (by rw [e2, e1]; exact (Fx.setI ⟨by omega, rfl⟩).tr (Fx.setI ⟨by omega, rfl⟩))) (by rw [q6, ups_at, txN_y hz]; omega) (fun q hq => by rw [q6, ups_ne hq]; exact gq q hq) (by
          rw [q7]
          show _ = if byt x i = 0 then _ else _
          rw [if_neg hz])
        rwa [show 24 - 8 * ((i + 1 : Nat) : Int) = 24 - 8 * (i : Int) + (-8) by omega] at this
  exact key 4 0 M (by omega) Fx.rf h3 (fun _ _ => rfl) rfl
/-- the reference's -/
theorem c1016 {x : Int} {l : Nat} {M : Mm} {Q : Int → Mm → Prop} (h11 : M.1 10 0 11 = l) (h60 : l ≤ 60)
    (h1 : ¬ txOk x → ∀ M', Fx (fun t j => t = 10 ∧ j = 0) M M' → M'.1 10 0 = ups (M.1 10 0) 0 1 → Q 0 M')
    (h2 : txOk x → 60 < l + txN x 4 → ∀ M', Fx (fun t j => t = 10 ∧ j = 0) M M' → M'.1 10 0 = ups (M.1 10 0) 0 2 → Q 0 M')
    (h0 : txOk x → l + txN x 4 ≤ 60 → ∀ M', Fx (fun t j => (t = 10 ∨ t = 1110) ∧ j = 0) M M' → M'.1 10 0 0 = 0 → M'.1 10 0 11 = (l + txN x 4 : Nat) → (∀ q, q ≠ 0 → q ≠ 11 → M'.1 10 0 q = M.1 10 0 q) → M'.1 1110 0 = apS x (M.1 1110 0) l 4 → Q ((l + txN x 4 : Nat) : Int) M') : E_1016 x M Q := by
  refine s_1016_0 fun M1 e1 => ?_
  have q10 : M1.1 10 0 = ups (M.1 10 0) 0 0 := by rw [e1, setI_at]
  have f1 : Fx (fun t j => t = 10 ∧ j = 0) M M1 := by rw [e1]; exact Fx.setI ⟨rfl, rfl⟩
  have q11 : M1.1 10 0 11 = l := by rw [q10, ups_ne (by omega)]; exact h11
  have upp : ∀ v : Int, ups (ups (M.1 10 0) 0 0) 0 v = ups (M.1 10 0) 0 v := fun v => by
    funext q
    by_cases e : q = 0
    · rw [e, ups_at, ups_at]
    · rw [ups_ne e, ups_ne e, ups_ne e]
  have fin : ∀ v : Int, ∀ M', M' = setI M1 10 0 0 v → Fx (fun t j => t = 10 ∧ j = 0) M M' ∧ M'.1 10 0 = ups (M.1 10 0) 0 v := fun v M' e => by
    rw [e]
    exact ⟨f1.tr (Fx.setI ⟨rfl, rfl⟩), by rw [setI_at, q10, upp]⟩
  have second : txOk x → l + txN x 4 ≤ 60 → ∀ c : Int, L_1016_80 x c 24 M1 Q := by
    intro hok hle c
    have key : ∀ (r i : Nat) (M' : Mm), i + r = 4 → Fx (fun t j => (t = 10 ∨ t = 1110) ∧ j = 0) M M' → M'.1 10 0 0 = 0 → M'.1 10 0 11 = (l + txN x i : Nat) → (∀ q, q ≠ 0 → q ≠ 11 → M'.1 10 0 q = M.1 10 0 q) → M'.1 1110 0 = apS x (M.1 1110 0) l i → L_1016_80 x c (24 - 8 * (i : Int)) M' Q := by
      intro r
      induction r with
      | zero =>
        intro i M' hi hf g0 g3 gq gs
        have e : i = 4 := by omega
        rw [e] at g3 gs
        refine s_1016_80 ⟨fun _ => ?_, fun h => by omega⟩
        rw [g3]
        exact h0 hok hle M' hf g0 g3 gq gs
      | succ r ih =>
        intro i M' hi hf g0 g3 gq gs
        have hm := txN_mono x (show i + 1 ≤ 4 by omega)
        refine s_1016_80 ⟨fun h => by omega, fun _ b eb => ?_⟩
        have eb' : b = byt x i := eb
        rw [eb', g3]
        refine ⟨fun hz => ⟨by omega, ?_⟩, fun hz => ⟨by rw [txN_y hz] at hm; omega, fun M2 e2 => ?_⟩⟩
        · have := ih (i + 1) M' (by omega) hf g0 (by rw [g3, txN_n hz]) gq (by
            rw [gs]
            show _ = if byt x i = 0 then _ else _
            rw [if_pos hz])
          rwa [show 24 - 8 * ((i + 1 : Nat) : Int) = 24 - 8 * (i : Int) + (-8) by omega] at this
        · rw [Int.toNat_natCast] at e2
          have q3 : M2.1 10 0 11 = (l + txN x i : Nat) := by rw [e2, setI_ne (by omega)]; exact g3
          rw [q3]
          refine ⟨by rw [txN_y hz] at hm; omega, fun M3 e3 => ⟨by omega, ?_⟩⟩
          have q6 : M3.1 10 0 = ups (M'.1 10 0) 11 (((l + txN x i : Nat) : Int) + 1) := by rw [e3, setI_at, e2, setI_ne (by omega)]
          have q7 : M3.1 1110 0 = ups (apS x (M.1 1110 0) l i) (l + txN x i) (byt x i) := by rw [e3, setI_ne (by omega), e2, setI_at, gs]
          have := ih (i + 1) M3 (by omega) (hf.tr (by rw [e3, e2]; exact (Fx.setI ⟨by omega, rfl⟩).tr (Fx.setI ⟨by omega, rfl⟩))) (by rw [q6, ups_ne (by omega)]; exact g0) (by rw [q6, ups_at, txN_y hz]; omega) (fun q hq hq2 => by rw [q6, ups_ne hq2]; exact gq q hq hq2) (by
            rw [q7]
            show _ = if byt x i = 0 then _ else _
            rw [if_neg hz])
          rwa [show 24 - 8 * ((i + 1 : Nat) : Int) = 24 - 8 * (i : Int) + (-8) by omega] at this
    exact key 4 0 M1 (by omega) (f1.up fun t j h => ⟨Or.inl h.1, h.2⟩) (by rw [q10, ups_at]) q11 (fun q hq _ => by rw [q10, ups_ne hq]) (by rw [e1, setI_ne (by omega)]; rfl)
  have first : ∀ r i : Nat, i + r = 4 → (∀ j, j < i → byt x j = 0 ∨ (33 ≤ byt x j ∧ byt x j ≤ 126)) → L_1016_10 x (txN x i : Int) (24 - 8 * (i : Int)) M1 Q := by
    intro r
    induction r with
    | zero =>
      intro i hi hn
      have e : i = 4 := by omega
      rw [e] at hn
      have hle := txN_le x i
      refine s_1016_10 ⟨fun _ => ?_, fun h => by omega⟩
      rw [q11, e]
      rw [e] at hle
      exact ⟨by omega, fun h => second hn (by omega) _, fun h M' e' => h2 hn (by omega) M' (fin 2 M' e').1 (fin 2 M' e').2⟩
    | succ r ih =>
      intro i hi hn
      have hle := txN_le x i
      refine s_1016_10 ⟨fun h => by omega, fun _ b eb => ?_⟩
      have eb' : b = byt x i := eb
      rw [eb']
      have hv := inV_p (byt x i) 33 126
      refine ⟨fun hz => ⟨fun h => ⟨by omega, ?_⟩, fun h M' e' => h1 (fun g => ?_) M' (fin 1 M' e').1 (fin 1 M' e').2⟩, fun hz => ⟨by omega, ?_⟩⟩
      · have := ih (i + 1) (by omega) fun j hj => by
          by_cases q : j = i
          · rw [q]; exact Or.inr (by omega)
          · exact hn j (by omega)
        rw [txN_y hz] at this
        rw [show (txN x i : Int) + 1 = ((txN x i + 1 : Nat) : Int) by omega]
        rwa [show 24 - 8 * ((i + 1 : Nat) : Int) = 24 - 8 * (i : Int) + (-8) by omega] at this
      · have := g i (by omega)
        omega
      · have := ih (i + 1) (by omega) fun j hj => by
          by_cases q : j = i
          · rw [q]; exact Or.inl hz
          · exact hn j (by omega)
        rw [txN_n hz] at this
        rwa [show 24 - 8 * ((i + 1 : Nat) : Int) = 24 - 8 * (i : Int) + (-8) by omega] at this
  exact first 4 0 (by omega) fun j h => absurd h (Nat.not_lt_zero j)

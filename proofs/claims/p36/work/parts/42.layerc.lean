/-! the class: layers -/
def RepN (n : Nat) (g : Nat → Int64) (P : Int → Int → Bool) : Prop := ∀ y : Nat, y < n → ∀ x : Nat, bJ (g y) x = (decide (x < n) && P x y)
theorem RepN.sgn {n : Nat} {g : Nat → Int64} {P : Int → Int → Bool} (h : RepN n g P) (hn : n ≤ 63) {y : Nat} (hy : y < n) : bJ (g y) 63 = false := by
  rw [h y hy, decide_eq_false (by omega), Bool.false_and]
theorem RepN.cnt {n : Nat} {g : Nat → Int64} {P : Int → Int → Bool} (h : RepN n g P) (hn : n ≤ 64) {y : Nat} (hy : y < n) : cntB (bJ (g y)) 64 = cntB (fun x => P x y) n := by
  have e : cntB (bJ (g y)) 64 = cntB (bJ (g y)) n := cntB_ext (fun x hx => by rw [h y hy, decide_eq_false (by omega), Bool.false_and]) hn
  rw [e]
  exact cntB_congr (fun x hx => by rw [h y hy, decide_eq_true hx, Bool.true_and])
def er (P : Int → Int → Bool) (x y : Int) : Bool := (((P x (y - 1) && P (x - 1) (y - 1)) && P (x + 1) (y - 1)) && ((P x y && P (x - 1) y) && P (x + 1) y)) && ((P x (y + 1) && P (x - 1) (y + 1)) && P (x + 1) (y + 1))
theorem lay_er (f : Nat → Int) (d : Nat) (x y : Int) : lay f (d + 1) x y = er (lay f d) x y := rfl
/-- a row and its neighbours -/
def tri (P : Int → Int → Bool) (x y : Int) : Bool := (P x y && P (x - 1) y) && P (x + 1) y
theorem er_tri (P : Int → Int → Bool) (x y : Int) : er P x y = ((tri P x (y - 1) && tri P x y) && tri P x (y + 1)) := rfl
theorem bJ_15 (x : Nat) : bJ (Int64.ofInt 15) x = decide (x < 4) := by
  by_cases h : x < 64
  · have hb : ((List.range 64).all fun x => bJ (Int64.ofInt 15) x == decide (x < 4)) = true := by decide +kernel
    exact eq_of_beq (List.all_eq_true.mp hb x (List.mem_range.mpr h))
  · rw [bJ_ge _ (by omega), decide_eq_false (by omega)]
theorem c508 {i : Nat} {M : Mm} {Q : Mm → Prop} (hR : R12 (M.1 500 i)) (hQ : ∀ M', Fx (fun t j => t = 605 ∧ j = 0) M M' → Rep (M'.2 605 0) (lay (M.1 500 i) 0) → Q M') : E_508 i M Q := by
  refine s_508_0 ?_
  generalize hf : M.1 500 i = f at *
  have key := lp_up (P := fun y => ∀ M', (Fx (fun t j => t = 605 ∧ j = 0) M M' ∧ ∀ y', y' < y → ∀ x : Nat, bJ (M'.2 605 0 y') x = (decide (x < 48) && lay f 0 x y')) → L_508_2 i (y : Int) M' Q) 48 ?_ ?_
  · exact key M ⟨Fx.rf, fun y hy => absurd hy (Nat.not_lt_zero y)⟩
  · intro y hy ih M1 ⟨h1, h2⟩
    refine s_508_2 ⟨fun g => by omega, fun _ => ⟨by omega, fun M2 e2 => ?_⟩⟩
    rw [Int.toNat_natCast] at e2
    have f2 : Fx (fun t j => t = 605 ∧ j = 0) M M2 := h1.tr (by rw [e2]; exact Fx.setJ ⟨rfl, rfl⟩)
    have k2 : ∀ y', y' < y → ∀ x : Nat, bJ (M2.2 605 0 y') x = (decide (x < 48) && lay f 0 x y') := by
      intro y' hy' x
      rw [e2, setJ_at, upj_ne (by omega)]
      exact h2 y' hy' x
    have k3 : ∀ x : Nat, bJ (M2.2 605 0 y) x = (decide (x < 4 * 0) && lay f 0 x y) := by
      intro x
      rw [e2, setJ_at, upj_at, bJ_0, decide_eq_false (by omega), Bool.false_and]
    have key2 := lp_up (P := fun c => ∀ M', (Fx (fun t j => t = 605 ∧ j = 0) M M' ∧ (∀ y', y' < y → ∀ x : Nat, bJ (M'.2 605 0 y') x = (decide (x < 48) && lay f 0 x y')) ∧ ∀ x : Nat, bJ (M'.2 605 0 y) x = (decide (x < 4 * c) && lay f 0 x y)) → L_508_20 i (y : Int) (c : Int) M' Q) 12 ?_ ?_
    · exact key2 M2 ⟨f2, k2, k3⟩
    · intro c hc ih2 M3 ⟨g1, g2, g3⟩
      have e500 : M3.1 500 i = f := by rw [(g1 500 i (by simp)).1, hf]
      refine s_508_20 ⟨fun g => by omega, fun _ => ⟨by omega, fun d ed => ?_⟩⟩
      rw [tdiv_p (by omega)] at ed
      rw [e500, hasV_cel hR, b2i_0, b2i_n]
      have hl : ∀ x : Nat, 4 * c ≤ x → x < 4 * (c + 1) → lay f 0 x y = cel f c d := by
        intro x h3 h4
        rw [lay_0, ed, show (x : Int) / 4 = c by omega]
      refine ⟨fun hz => ⟨by omega, ih2 M3 ⟨g1, g2, fun x => ?_⟩⟩, fun hz => ⟨by omega, fun M4 e4 => ⟨by omega, ih2 M4 ⟨g1.tr (by rw [e4]; exact Fx.setJ ⟨rfl, rfl⟩), fun y' hy' x => ?_, fun x => ?_⟩⟩⟩⟩
      · rw [g3 x]
        by_cases h3 : x < 4 * c
        · rw [decide_eq_true h3, decide_eq_true (show x < 4 * (c + 1) by omega)]
        · rw [decide_eq_false h3, Bool.false_and]
          by_cases h4 : x < 4 * (c + 1)
          · rw [hl x (by omega) h4, hz, Bool.and_false]
          · rw [decide_eq_false h4, Bool.false_and]
      · rw [e4, Int.toNat_natCast, setJ_at, upj_ne (by omega)]
        exact g2 y' hy' x
      · rw [e4, Int.toNat_natCast, setJ_at, upj_at, bJ_or, g3 x, show (4 * (c : Int)) = ((4 * c : Nat) : Int) by omega, bJ_shl (by omega), bJ_15]
        by_cases h3 : x < 4 * c
        · rw [decide_eq_true h3, decide_eq_true (show x < 4 * (c + 1) by omega)]
          simp
        · rw [decide_eq_false h3, Bool.false_and, Bool.false_or]
          by_cases h4 : x < 4 * (c + 1)
          · rw [hl x (by omega) h4, hz, decide_eq_true h4, decide_eq_true (show x < 64 by omega), decide_eq_true (show x - 4 * c < 4 by omega)]
            rfl
          · rw [decide_eq_false h4, decide_eq_false (show ¬ (x - 4 * c < 4) by omega)]
            simp
    · intro M3 ⟨g1, g2, g3⟩
      refine s_508_20 ⟨fun _ => ⟨by omega, ih M3 ⟨g1, fun y' hy' x => ?_⟩⟩, fun g => by omega⟩
      by_cases h7 : y' = y
      · subst h7; exact g3 x
      · exact g2 y' (by omega) x
  · intro M1 ⟨h1, h2⟩
    exact s_508_2 ⟨fun _ => hQ M1 h1 h2, fun g => by omega⟩
theorem c509 {P : Int → Int → Bool} {M : Mm} {Q : Int → Mm → Prop} (hR : Rep (M.2 605 0) P) (hQ : Q (cntL P 48 48 : Int) M) : E_509 M Q := by
  refine s_509_0 ?_
  have hR' : RepN 48 (M.2 605 0) P := hR
  have key := lp_up (P := fun y => L_509_4 (cntL P 48 y : Int) (y : Int) M Q) 48 ?_ ?_
  · exact key
  · intro y hy ih
    refine s_509_4 ⟨fun g => by omega, fun _ => ⟨by omega, ?_⟩⟩
    rw [Int.toNat_natCast, hR'.cnt (by omega) hy]
    have b1 := cntL_le P 48 (y + 1)
    have e : cntL P 48 (y + 1) = cntL P 48 y + cntB (fun x => P x y) 48 := rfl
    refine ⟨by omega, fun r er => ⟨by omega, ?_⟩⟩
    rw [er, ← Int.natCast_add, ← e]
    exact ih
  · exact s_509_4 ⟨fun _ => hQ, fun g => by omega⟩
theorem tri_bits {n : Nat} {g : Nat → Int64} {P : Int → Int → Bool} (hn : n ≤ 63) (hR : RepN n g P) (hP : ∀ x y, P x y = true → 0 ≤ x ∧ x < n ∧ 0 ≤ y ∧ y < n) {y : Nat} (hy : y < n) (x : Nat) : bJ ((g y &&& lsh (g y) 1) &&& lus (g y) 1) x = (decide (x < n) && tri P x y) := by
  have hf : ∀ x y : Int, ¬ (0 ≤ x ∧ x < n ∧ 0 ≤ y ∧ y < n) → P x y = false := by
    intro x y h
    cases e : P x y with
    | false => rfl
    | true => exact absurd (hP x y e) h
  rw [bJ_and, bJ_and, show (1 : Int) = ((1 : Nat) : Int) from rfl, bJ_shl (by omega), bJ_ushr (by omega), hR y hy, hR y hy, hR y hy]
  unfold tri
  by_cases h1 : x < n
  · rw [decide_eq_true h1, Bool.true_and, Bool.true_and, decide_eq_true (show x < 64 by omega), Bool.true_and]
    congr 1
    · congr 1
      by_cases h2 : x < 1
      · rw [decide_eq_true h2, hf ((x : Int) - 1) y (by omega)]
        rfl
      · rw [decide_eq_false h2, decide_eq_true (show x - 1 < n by omega), show ((x - 1 : Nat) : Int) = (x : Int) - 1 by omega]
        simp
    · rw [show ((1 + x : Nat) : Int) = (x : Int) + 1 by omega]
      by_cases h2 : 1 + x < n
      · rw [decide_eq_true h2, Bool.true_and]
      · rw [decide_eq_false h2, hf _ _ (by omega)]
        rfl
  · rw [decide_eq_false h1]
    simp
theorem c512 {f : Nat → Int} {d : Nat} {M : Mm} {Q : Mm → Prop} (hR : Rep (M.2 605 0) (lay f d)) (hQ : ∀ M', Fx (fun t j => (t = 605 ∨ t = 606) ∧ j = 0) M M' → Rep (M'.2 605 0) (lay f (d + 1)) → Q M') : E_512 M Q := by
  refine s_512_0 ?_
  have hP : ∀ x y : Int, lay f d x y = true → 0 ≤ x ∧ x < (48 : Nat) ∧ 0 ≤ y ∧ y < (48 : Nat) := fun x y h => by
    have := lay_in h
    omega
  have second : ∀ M1, Fx (fun t j => (t = 605 ∨ t = 606) ∧ j = 0) M M1 → (∀ y, y < 48 → ∀ x : Nat, bJ (M1.2 606 0 y) x = (decide (x < 48) && tri (lay f d) x y)) → L_512_58 0 M1 Q := by
    intro M1 f1 h1
    have hat : ∀ (j : Int) (x : Nat), bJ (atJ 48 (M1.2 606 0) j) x = (decide (x < 48) && tri (lay f d) x j) := by
      intro j x
      by_cases hj : 0 ≤ j ∧ j < 48
      · rw [atJ_i hj.1 (by omega), h1 j.toNat (by omega), show ((j.toNat : Nat) : Int) = j by omega]
      · rw [atJ_o (by omega), bJ_0]
        unfold tri
        rw [lay_out (by omega), Bool.false_and, Bool.false_and, Bool.and_false]
    have key := lp_up (P := fun y => ∀ M', (Fx (fun t j => t = 605 ∧ j = 0) M1 M' ∧ ∀ y', y' < y → ∀ x : Nat, bJ (M'.2 605 0 y') x = (decide (x < 48) && lay f (d + 1) x y')) → L_512_58 (y : Int) M' Q) 48 ?_ ?_
    · exact key M1 ⟨Fx.rf, fun y hy => absurd hy (Nat.not_lt_zero y)⟩
    · intro y hy ih M2 ⟨g1, g2⟩
      refine s_512_58 ⟨fun g => by omega, fun _ => ⟨by omega, by omega, by omega, fun M3 e => ⟨by omega, ih M3 ⟨g1.tr (by rw [e]; exact Fx.setJ ⟨rfl, rfl⟩), fun y' hy' x => ?_⟩⟩⟩⟩
      rw [e, Int.toNat_natCast, setJ_at]
      by_cases h7 : y' = y
      · subst h7
        rw [upj_at, (g1 606 0 (by simp)).2, bJ_and, bJ_and, hat, hat, hat, lay_er, er_tri]
        by_cases h8 : x < 48
        · rw [decide_eq_true h8]; simp only [Bool.true_and]
        · rw [decide_eq_false h8]; simp only [Bool.false_and]
      · rw [upj_ne h7]
        exact g2 y' (by omega) x
    · intro M2 ⟨g1, g2⟩
      exact s_512_58 ⟨fun _ => hQ M2 (f1.tr (g1.up fun t j g => ⟨Or.inl g.1, g.2⟩)) g2, fun g => by omega⟩
  have key := lp_up (P := fun y => ∀ M', (Fx (fun t j => t = 606 ∧ j = 0) M M' ∧ ∀ y', y' < y → ∀ x : Nat, bJ (M'.2 606 0 y') x = (decide (x < 48) && tri (lay f d) x y')) → L_512_2 (y : Int) M' Q) 48 ?_ ?_
  · exact key M ⟨Fx.rf, fun y hy => absurd hy (Nat.not_lt_zero y)⟩
  · intro y hy ih M2 ⟨g1, g2⟩
    refine s_512_2 ⟨fun g => by omega, fun _ => ⟨fun g => by omega, fun _ => ⟨by omega, fun M3 e => ⟨by omega, ih M3 ⟨g1.tr (by rw [e]; exact Fx.setJ ⟨rfl, rfl⟩), fun y' hy' x => ?_⟩⟩⟩⟩⟩
    rw [e, Int.toNat_natCast, setJ_at, (g1 605 0 (by simp)).2]
    by_cases h7 : y' = y
    · subst h7
      rw [upj_at]
      exact tri_bits (by omega) (show RepN 48 (M.2 605 0) (lay f d) from hR) hP hy x
    · rw [upj_ne h7]
      exact g2 y' (by omega) x
  · intro M2 ⟨g1, g2⟩
    refine s_512_2 ⟨fun _ => second M2 (g1.up fun t j g => ⟨Or.inr g.1, g.2⟩) g2, fun g => by omega⟩
theorem c511 {p : Nat} {M : Mm} {Q : Mm → Prop} (hQ : ∀ M', Fx (fun t j => t = 401 ∧ j = p) M M' → (∀ y, y < 48 → M'.2 401 p y = M.2 605 0 y) → Q M') : E_511 p M Q := by
  refine s_511_0 ?_
  have key := lp_up (P := fun k => ∀ M', (Fx (fun t j => t = 401 ∧ j = p) M M' ∧ ∀ y, y < k → M'.2 401 p y = M.2 605 0 y) → L_511_2 p (k : Int) M' Q) 48 ?_ ?_
  · exact key M ⟨Fx.rf, fun y hy => absurd hy (Nat.not_lt_zero y)⟩
  · intro k hk ih M1 ⟨h1, h2⟩
    refine s_511_2 ⟨fun g => by omega, fun _ => ⟨by omega, fun M2 e => ⟨by omega, ih M2 ⟨h1.tr (by rw [e]; exact Fx.setL ⟨rfl, rfl⟩), fun y hy => ?_⟩⟩⟩⟩
    rw [e, setL_at, (h1 605 0 (by simp)).2, Int.toNat_natCast]
    by_cases g : y = k
    · subst g; rw [putJ_at (by omega) rfl]
    · rw [putJ_ne (by omega)]; exact h2 y (by omega)
  · intro M1 ⟨h1, h2⟩
    exact s_511_2 ⟨fun _ => hQ M1 h1 h2, fun g => by omega⟩
/-- the sample of cell c -/
def smx (c : Nat) : Int := 4 * ((c % 12 : Nat) : Int)
def smy (c : Nat) : Int := 4 * ((c / 12 : Nat) : Int) + 1
theorem o64 : Int64.ofNat 1 ≠ Int64.ofNat 0 := by decide
theorem c510 {P : Int → Int → Bool} {d : Int} {M : Mm} {Q : Mm → Prop} (hR : Rep (M.2 605 0) P) (hQ : ∀ M', Fx (fun t j => t = 608 ∧ j = 0) M M' → (∀ c, c < 144 → M'.1 608 0 c = if P (smx c) (smy c) then d else M.1 608 0 c) → Q M') : E_510 d M Q := by
  refine s_510_0 ?_
  have hR' : RepN 48 (M.2 605 0) P := hR
  have key := lp_up (P := fun k => ∀ M', (Fx (fun t j => t = 608 ∧ j = 0) M M' ∧ (∀ c, c < k → M'.1 608 0 c = if P (smx c) (smy c) then d else M.1 608 0 c) ∧ ∀ c, k ≤ c → M'.1 608 0 c = M.1 608 0 c) → L_510_2 d (k : Int) M' Q) 144 ?_ ?_
  · exact key M ⟨Fx.rf, fun y hy => absurd hy (Nat.not_lt_zero y), fun _ _ => rfl⟩
  · intro k hk ih M1 ⟨h1, h2, h3⟩
    refine s_510_2 ⟨fun g => by omega, fun _ => ⟨by omega, fun q eq => ⟨?_, fun y ey => ⟨?_, fun r er => ⟨?_, ?_⟩⟩⟩⟩⟩
    all_goals (rw [tdiv_p (by omega)] at eq)
    · omega
    · omega
    · rw [tmod_p (by omega)] at er; omega
    · rw [tmod_p (by omega)] at er
      have ex : (4 * r) = ((4 * (k % 12) : Nat) : Int) := by omega
      have ey2 : ((4 * q) + 1).toNat = 4 * (k / 12) + 1 := by omega
      rw [atJ_i (by omega) (by omega), ey2] at ey
      rw [ey, (h1 605 0 (by simp)).2, ex, bit_j (by omega) (hR'.sgn (by omega) (by omega)), hR' _ (by omega), decide_eq_true (by omega), Bool.true_and]
      have e1 : ((4 * (k % 12) : Nat) : Int) = smx k := by unfold smx; omega
      have e2 : ((4 * (k / 12) + 1 : Nat) : Int) = smy k := by unfold smy; omega
      rw [e1, e2]
      refine ⟨fun hz => ⟨by omega, ih M1 ⟨h1, fun c hc => ?_, fun c hc => h3 c (by omega)⟩⟩, fun hz => ⟨by omega, fun M2 e => ⟨by omega, ih M2 ⟨h1.tr (by rw [e]; exact Fx.setI ⟨rfl, rfl⟩), fun c hc => ?_, fun c hc => ?_⟩⟩⟩⟩
      · by_cases g : c = k
        · subst g
          have hp : P (smx c) (smy c) = false := by
            cases e : P (smx c) (smy c) with
            | false => rfl
            | true => rw [e, if_pos rfl] at hz; exact absurd hz o64
          rw [hp, h3 c (Nat.le_refl c)]
          rfl
        · exact h2 c (by omega)
      · rw [e, Int.toNat_natCast, setI_at]
        by_cases g : c = k
        · subst g
          have hp : P (smx c) (smy c) = true := by
            cases e : P (smx c) (smy c) with
            | true => rfl
            | false => rw [e, if_neg (by decide)] at hz; exact absurd rfl hz
          rw [hp, ups_at]
          rfl
        · rw [ups_ne g]; exact h2 c (by omega)
      · rw [e, Int.toNat_natCast, setI_at, ups_ne (by omega)]
        exact h3 c (by omega)
  · intro M1 ⟨h1, h2, h3⟩
    exact s_510_2 ⟨fun _ => hQ M1 h1 h2, fun g => by omega⟩
/-- n is the number of phases -/
def IsN (f : Nat → Int) (n : Nat) : Prop := (∀ k, k < n → lcnt f (2 * k + 1) ≠ 0) ∧ lcnt f (2 * n + 1) = 0
theorem IsN.le {f : Nat → Int} {n : Nat} (h : IsN f n) : n ≤ 12 := by
  rcases Nat.lt_or_ge 12 n with g | g
  · exact absurd (lcnt_24 f (by omega)) (h.1 12 g)
  · exact g
theorem IsN.un {f : Nat → Int} {n m : Nat} (h : IsN f n) (g : IsN f m) : n = m := by
  rcases Nat.lt_trichotomy n m with h1 | h1 | h1
  · exact absurd h.2 (g.1 n h1)
  · exact h1
  · exact absurd g.2 (h.1 m h1)
/-- the depth of a cell's sample among the first layers -/
def sd (f : Nat → Int) (c : Nat) : Nat → Nat
  | 0 => 0
  | d + 1 => if lay f d (smx c) (smy c) then d + 1 else sd f c d
theorem sd_end {f : Nat → Int} {c d : Nat} (h : lcnt f d = 0) : ∀ k, sd f c (d + k) = sd f c d
  | 0 => rfl
  | k + 1 => by
    show (if lay f (d + k) (smx c) (smy c) then d + k + 1 else sd f c (d + k)) = _
    rw [lcnt_0.mp (lcnt_up h k), if_neg (by decide)]
    exact sd_end h k
def TM (t j : Nat) : Prop := (t = 5 ∨ t = 605 ∨ t = 606 ∨ t = 607 ∨ t = 608) ∧ j = 0 ∨ t = 401 ∧ j < 12
theorem c507 {i : Nat} {f : Nat → Int} {M : Mm} {Q : Mm → Prop} (hf : M.1 500 i = f) (hR : R12 f) (hQ : ∀ M' n, Fx TM M M' → IsN f n → M'.1 5 0 11 = n → (∀ t, t < 26 → M'.1 607 0 t = if t = 0 then 0 else (lcnt f (t - 1) : Int)) → (∀ c, c < 144 → M'.1 608 0 c = sd f c 25) → (∀ k, k < n → Rep (M'.2 401 k) (lay f (2 * k + 1))) → Q M') : E_507 i M Q := by
  refine s_507_0 fun M1 e1 M2 e2 M3 e3 => ?_
  have f3 : Fx TM M M3 := by
    rw [e3, e2, e1]
    exact ((Fx.setI (Or.inl ⟨Or.inl rfl, rfl⟩)).tr (Fx.setA (Or.inl ⟨by simp, rfl⟩))).tr (Fx.setA (Or.inl ⟨by simp, rfl⟩))
  have a1 : M3.1 5 0 11 = 0 := by rw [e3, setA_ne (by omega), e2, setA_ne (by omega), e1, setI_at, ups_at]
  have a2 : ∀ t, t < 26 → M3.1 607 0 t = 0 := by
    intro t ht
    rw [e3, setA_at]
    unfold upTo
    rw [if_pos ht]
  have a3 : ∀ c, c < 144 → M3.1 608 0 c = 0 := by
    intro t ht
    rw [e3, setA_ne (by omega), e2, setA_at]
    unfold upTo
    rw [if_pos ht]
  have a4 : M3.1 500 i = f := by rw [e3, setA_ne (by omega), e2, setA_ne (by omega), e1, setI_ne (by omega), hf]
  refine c508 (by rw [a4]; exact hR) fun M4 f4 r4 => c509 r4 ?_
  rw [a4] at r4 ⊢
  -- the loop
  have key : ∀ k d M', d + k = 25 → Fx TM M M' → Rep (M'.2 605 0) (lay f d) → (∀ e, e < d → lcnt f e ≠ 0) → M'.1 5 0 11 = (d / 2 : Nat) → (∀ t, t < 26 → M'.1 607 0 t = if 1 ≤ t ∧ t ≤ d then (lcnt f (t - 1) : Int) else 0) → (∀ c, c < 144 → M'.1 608 0 c = sd f c d) → (∀ k, k < d / 2 → Rep (M'.2 401 k) (lay f (2 * k + 1))) → L_507_33 i (lcnt f d : Int) ((d + 1 : Nat) : Int) M' Q := by
    intro k
    induction k with
    | zero =>
      intro d M5 hd g1 g2 g3 g4 g5 g6 g7
      exact absurd (lcnt_24 f (show 24 ≤ 24 by omega)) (g3 24 (by omega))
    | succ k ih =>
      intro d M5 hd g1 g2 g3 g4 g5 g6 g7
      have fin : lcnt f d = 0 → Q M5 := by
        intro hz
        refine hQ M5 (d / 2) g1 ⟨fun k hk => g3 _ (by omega), ?_⟩ g4 (fun t ht => ?_) (fun c hc => ?_) g7
        · have := lcnt_up hz (2 * (d / 2) + 1 - d)
          rw [show d + (2 * (d / 2) + 1 - d) = 2 * (d / 2) + 1 by omega] at this
          exact this
        · rw [g5 t ht]
          by_cases h0 : t = 0
          · rw [if_neg (by omega), if_pos h0]
          · rw [if_neg h0]
            by_cases h1 : t ≤ d
            · rw [if_pos ⟨by omega, h1⟩]
            · rw [if_neg (by omega)]
              have := lcnt_up hz (t - 1 - d)
              rw [show d + (t - 1 - d) = t - 1 by omega] at this
              rw [this]; rfl
        · rw [g6 c hc]
          have := sd_end (c := c) hz (25 - d)
          rw [show d + (25 - d) = 25 by omega] at this
          rw [this]
      refine s_507_33 ⟨fun g => by omega, fun _ => ⟨fun g => fin (by omega), fun g => ?_⟩⟩
      have hd24 : d < 24 := by
        rcases Nat.lt_or_ge d 24 with h | h
        · exact h
        · have := lcnt_24 f h
          omega
      refine ⟨by omega, fun M6 e6 => ?_⟩
      have b605 : M6.2 605 0 = M5.2 605 0 := by rw [e6, setI_2]
      refine c510 (P := lay f d) (by rw [b605]; exact g2) fun M7 f7 h7 => ?_
      have c605 : M7.2 605 0 = M5.2 605 0 := by rw [(f7 605 0 (by simp)).2, b605]
      have f67 : Fx TM M M7 := g1.tr (((by rw [e6]; exact Fx.setI (Or.inl ⟨by simp, rfl⟩)) : Fx TM M5 M6).tr (f7.up fun t j g => Or.inl ⟨by simp [g.1], g.2⟩))
      have c607 : ∀ t, t < 26 → M7.1 607 0 t = if 1 ≤ t ∧ t ≤ d + 1 then (lcnt f (t - 1) : Int) else 0 := by
        intro t ht
        rw [(f7 607 0 (by simp)).1, e6, Int.toNat_natCast, setI_at]
        by_cases h : t = d + 1
        · subst h
          rw [ups_at, if_pos (by omega)]
          rfl
        · rw [ups_ne h, g5 t ht]
          by_cases h2 : 1 ≤ t ∧ t ≤ d
          · rw [if_pos h2, if_pos (by omega)]
          · rw [if_neg h2, if_neg (by omega)]
      have c608 : ∀ c, c < 144 → M7.1 608 0 c = sd f c (d + 1) := by
        intro c hc
        rw [h7 c hc, e6, setI_ne (by omega), g6 c hc]
        show _ = ((if lay f d (smx c) (smy c) then d + 1 else sd f c d : Nat) : Int)
        cases lay f d (smx c) (smy c) <;> rfl
      have c401 : ∀ k, M7.2 401 k = M5.2 401 k := fun k => by rw [(f7 401 k (by simp)).2, e6, setI_2]
      have q511 : M7.1 5 0 11 = (d / 2 : Nat) := by rw [(f7 5 0 (by simp)).1, e6, setI_ne (by omega), g4]
      have hlt : ∀ e, e < d + 1 → lcnt f e ≠ 0 := by
        intro e he
        by_cases h : e = d
        · rw [h]; omega
        · exact g3 e (by omega)
      refine ⟨by omega, fun q eq => ?_⟩
      rw [tmod_p (by omega)] at eq
      refine ⟨fun hq => ?_, fun hq => ?_⟩
      · refine c512 (f := f) (d := d) (by rw [c605]; exact g2) fun M8 f8 r8 => c509 r8 ⟨by omega, ?_⟩
        refine ih (d + 1) M8 (by omega) (f67.tr (f8.up fun t j g => Or.inl ⟨by rcases g.1 with h | h <;> simp [h], g.2⟩)) r8 hlt ?_ (fun t ht => by rw [(f8 607 0 (by simp)).1]; exact c607 t ht) (fun c hc => by rw [(f8 608 0 (by simp)).1]; exact c608 c hc) (fun k hk => ?_)
        · rw [(f8 5 0 (by simp)).1, q511]
          omega
        · rw [(f8 401 k (by simp)).2, c401]
          exact g7 k (by omega)
      · rw [q511]
        refine ⟨by omega, fun M8 e8 => ?_⟩
        have d11 : M8.1 5 0 11 = (d / 2 : Nat) + 1 := by rw [e8, setI_at, ups_at]
        rw [d11]
        have hph : phV (((d / 2 : Nat) : Int) + 1) (((d / 2 : Nat) : Int) + 1 - 1) = d / 2 := by
          unfold phV
          rw [if_pos (by omega)]
          omega
        rw [hph]
        refine ⟨by omega, c511 fun M9 f9 h9 => ?_⟩
        have d605 : M9.2 605 0 = M5.2 605 0 := by rw [(f9 605 0 (by simp)).2, e8, setI_2, c605]
        refine c512 (f := f) (d := d) (by rw [d605]; exact g2) fun M10 f10 r10 => c509 r10 ⟨by omega, ?_⟩
        refine ih (d + 1) M10 (by omega) ?_ r10 hlt ?_ (fun t ht => ?_) (fun c hc => ?_) (fun k hk => ?_)
        · refine f67.tr (((by rw [e8]; exact Fx.setI (Or.inl ⟨by simp, rfl⟩)) : Fx TM M7 M8).tr ((f9.up fun t j g => Or.inr ⟨g.1, by omega⟩).tr (f10.up fun t j g => Or.inl ⟨by rcases g.1 with h | h <;> simp [h], g.2⟩)))
        · rw [(f10 5 0 (by simp)).1, (f9 5 0 (by simp)).1, d11]
          omega
        · rw [(f10 607 0 (by simp)).1, (f9 607 0 (by simp)).1, e8, setI_ne (by omega)]
          exact c607 t ht
        · rw [(f10 608 0 (by simp)).1, (f9 608 0 (by simp)).1, e8, setI_ne (by omega)]
          exact c608 c hc
        · by_cases hk2 : k = d / 2
          · subst hk2
            have hr : Rep (M5.2 605 0) (lay f (2 * (d / 2) + 1)) := by
              rw [show 2 * (d / 2) + 1 = d by omega]
              exact g2
            refine hr.congr (fun y hy => ?_) (fun _ _ _ _ => rfl)
            rw [(f10 401 (d / 2) (by simp)).2, h9 y hy, e8, setI_2, c605]
          · rw [(f10 401 k (by simp)).2, (f9 401 k (by simp [hk2])).2, e8, setI_2, c401]
            exact g7 k (by omega)
  have k0 := key 25 0 M4 rfl (f3.tr (f4.up fun t j g => Or.inl ⟨by simp [g.1], g.2⟩)) r4 (fun e he => absurd he (Nat.not_lt_zero e)) (by rw [(f4 5 0 (by simp)).1, a1]; rfl) (fun t ht => by rw [(f4 607 0 (by simp)).1, a2 t ht, if_neg (by omega)]) (fun c hc => by rw [(f4 608 0 (by simp)).1, a3 c hc]; rfl) (fun k hk => absurd hk (Nat.not_lt_zero k))
  exact k0

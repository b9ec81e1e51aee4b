/-! the class's contours -/
theorem bJ_row (x : Nat) : bJ (Int64.ofInt 562949953421311) x = decide (x ≤ 48) := by
  by_cases h : x < 64
  · have hb : ((List.range 64).all fun x => bJ (Int64.ofInt 562949953421311) x == decide (x ≤ 48)) = true := by decide +kernel
    exact eq_of_beq (List.all_eq_true.mp hb x (List.mem_range.mpr h))
  · rw [bJ_ge _ (by omega), decide_eq_false (by omega)]
def Bds (g : Nat → Int64) (P : Int → Int → Bool) : Prop := ∀ y : Nat, y < 49 → ∀ x : Nat, bJ (g y) x = (decide (x ≤ 48) && bn P x y)
def T202 (i t j : Nat) : Prop := (t = 309 ∨ t = 310) ∧ j = i
theorem c202 {i k : Nat} {P : Int → Int → Bool} {M : Mm} {Q : Mm → Prop} (hg : InG P) (hR : Rep (M.2 401 k) P) (hQ : ∀ M', Fx (T202 i) M M' → Bds (M'.2 309 i) P → Bds (M'.2 310 i) P → Q M') : E_202 i k M Q := by
  refine s_202_0 ?_
  have hout : ∀ x y : Int, ¬ (0 ≤ x ∧ x < 48 ∧ 0 ≤ y ∧ y < 48) → P x y = false := fun x y h => by
    cases e : P x y with
    | false => rfl
    | true => exact absurd (hg x y e) h
  have hat : ∀ M', Fx (T202 i) M M' → ∀ (j : Int) (x : Nat), bJ (atJ 48 (M'.2 401 k) j) x = P x j := by
    intro M' g j x
    rw [(g 401 k (by simp [T202])).2]
    by_cases hj : 0 ≤ j ∧ j < 48
    · rw [atJ_i hj.1 (by omega), hR j.toNat (by omega), show ((j.toNat : Nat) : Int) = j by omega]
      by_cases hx : x < 48
      · rw [decide_eq_true hx, Bool.true_and]
      · rw [decide_eq_false hx, Bool.false_and, hout _ _ (by omega)]
    · rw [atJ_o (by omega), bJ_0, hout _ _ (by omega)]
  have key := lp_up (P := fun y => ∀ M', (Fx (T202 i) M M' ∧ (∀ y', y' < y → ∀ x : Nat, bJ (M'.2 309 i y') x = (decide (x ≤ 48) && bn P x y')) ∧ (∀ y', y' < y → ∀ x : Nat, bJ (M'.2 310 i y') x = (decide (x ≤ 48) && bn P x y'))) → L_202_2 i k (y : Int) M' Q) 49 ?_ ?_
  · exact key M ⟨Fx.rf, fun y hy => absurd hy (Nat.not_lt_zero y), fun y hy => absurd hy (Nat.not_lt_zero y)⟩
  · intro y hy ih M1 ⟨g1, g2, g3⟩
    refine s_202_2 ⟨fun g => by omega, fun _ => ⟨fun g => by omega, fun _ => ⟨by omega, fun w ew => ⟨by omega, fun M2 e2 => ⟨by omega, fun M3 e3 => ⟨by omega, ?_⟩⟩⟩⟩⟩⟩
    rw [Int.toNat_natCast] at e2 e3
    have hw : ∀ x : Nat, bJ w x = (P x ((y : Int) - 1) ^^ P x y) := fun x => by rw [ew, bJ_xor, hat M1 g1, hat M1 g1]
    have hv : ∀ x : Nat, bJ ((w ^^^ (lsh w 1)) &&& (Int64.ofInt 562949953421311)) x = (decide (x ≤ 48) && bn P x y) := by
      intro x
      rw [bJ_and, bJ_xor, bJ_row, show (1 : Int) = ((1 : Nat) : Int) from rfl, bJ_shl (by omega), Bool.and_comm]
      by_cases h48 : x ≤ 48
      · congr 1
        unfold bn
        rw [hw]
        by_cases h1 : x < 1
        · have e0 : x = 0 := by omega
          subst e0
          rw [decide_eq_true h1, hout (((0 : Nat) : Int) - 1) ((y : Int) - 1) (by omega), hout (((0 : Nat) : Int) - 1) y (by omega)]
          simp
        · rw [decide_eq_false h1, decide_eq_true (show x < 64 by omega), hw, show ((x - 1 : Nat) : Int) = (x : Int) - 1 by omega]
          cases P x ((y : Int) - 1) <;> cases P x y <;> cases P ((x : Int) - 1) ((y : Int) - 1) <;> cases P ((x : Int) - 1) y <;> rfl
      · rw [decide_eq_false h48, Bool.false_and, Bool.false_and]
    have q9 : M3.2 309 i = upj (M1.2 309 i) y ((w ^^^ (lsh w 1)) &&& (Int64.ofInt 562949953421311)) := by rw [e3, setJ_ne (by omega), e2, setJ_at]
    have q10 : M3.2 310 i = upj (M1.2 310 i) y ((w ^^^ (lsh w 1)) &&& (Int64.ofInt 562949953421311)) := by rw [e3, setJ_at, e2, setJ_ne (by omega), setJ_at, upj_at]
    refine ih M3 ⟨g1.tr (by rw [e3, e2]; exact (Fx.setJ ⟨by simp, rfl⟩).tr (Fx.setJ ⟨by simp, rfl⟩)), fun y' hy' x => ?_, fun y' hy' x => ?_⟩
    · rw [q9]
      by_cases e : y' = y
      · subst e; rw [upj_at]; exact hv x
      · rw [upj_ne e]; exact g2 y' (by omega) x
    · rw [q10]
      by_cases e : y' = y
      · subst e; rw [upj_at]; exact hv x
      · rw [upj_ne e]; exact g3 y' (by omega) x
  · intro M1 ⟨g1, g2, g3⟩
    exact s_202_2 ⟨fun _ => hQ M1 g1 g2 g3, fun g => by omega⟩
theorem bndV_P {g : Nat → Int64} {P : Int → Int → Bool} (hg : InG P) (hR : Bds g P) (x y : Int) : bndV g x y = b2i (bn P x y) := by
  unfold bndV
  by_cases h : 0 ≤ x ∧ x ≤ 48 ∧ 0 ≤ y ∧ y < 49
  · rw [if_pos h]
    obtain ⟨a, rfl⟩ : ∃ n : Nat, x = n := ⟨x.toNat, by omega⟩
    obtain ⟨b, rfl⟩ : ∃ n : Nat, y = n := ⟨y.toNat, by omega⟩
    rw [Int.toNat_natCast]
    have h63 : bJ (g b) 63 = false := by rw [hR b (by omega), decide_eq_false (by omega), Bool.false_and]
    rw [bit_j (by omega) h63, hR b (by omega), decide_eq_true (by omega), Bool.true_and]
    cases hp : bn P a b with
    | true => rw [if_pos rfl, if_neg (lcm_n o64)]; rfl
    | false => exact if_pos (lcm_e (if_neg (by decide)))
  · rw [if_neg h]
    cases hp : bn P x y with
    | false => rfl
    | true =>
      have := bn_in hg hp
      exact absurd this (by omega)
theorem stepb {d : Int} (h : Dir d) (s : Nat) (hs : s ≤ 48) : (-48 ≤ (s : Int) * stepXV d ∧ (s : Int) * stepXV d ≤ 48) ∧ (-48 ≤ (s : Int) * stepYV d ∧ (s : Int) * stepYV d ≤ 48) := by
  rcases step_cases h with ⟨-, a, b⟩ | ⟨-, a, b⟩ | ⟨-, a, b⟩ | ⟨-, a, b⟩ <;> rw [a, b] <;> omega
theorem c205 {i n : Nat} {x y d : Int} {P : Int → Int → Bool} {M : Mm} {Q : Int → Mm → Prop} (hg : InG P) (hD : NoD P) (hB : Bds (M.2 309 i) P) (he : Ed P x y d) (hN : RunN P x y d n) (hQ : Q (n : Int) M) : E_205 i x y d M Q := by
  refine s_205_0 ?_
  obtain ⟨h48, hin⟩ := hN.inn hg hD he
  have key : ∀ (t s : Nat), s + t = n → 0 < s → L_205_3 i x y d (s : Int) M Q := by
    intro t
    induction t with
    | zero =>
      intro s hs2 h0
      have e : s = n := by omega
      subst e
      have in1 := hin s (Nat.le_refl s)
      refine s_205_3 ⟨fun g => ?_, fun _ => ?_⟩
      · have : s = 48 := by omega
        rw [this] at hQ
        exact hQ
      · rw [bndV_P hg hB, b2i_0, b2i_n, hN.2.2]
        refine ⟨?_, ?_, fun g => (by cases g), fun _ => hQ⟩
        · have := (stepb he.dir s h48).1; omega
        · have := (stepb he.dir s h48).2; omega
    | succ t ih =>
      intro s hs2 h0
      have in1 := hin s (by omega)
      refine s_205_3 ⟨fun g => by omega, fun _ => ?_⟩
      rw [bndV_P hg hB, b2i_0, b2i_n, hN.2.1 s h0 (by omega)]
      refine ⟨?_, ?_, fun _ => ⟨by omega, ih (s + 1) (by omega) (by omega)⟩, fun g => (by cases g)⟩
      · have := (stepb he.dir s (by omega)).1; omega
      · have := (stepb he.dir s (by omega)).2; omega
  have h0 := hN.1
  exact key (n - 1) 1 (by omega) (by omega)
/-- a side's line, low and high -/
def linS (d x y : Int) : Int := if levV d = 0 then x else y
def algS (d x y : Int) : Int := if levV d = 0 then y else x
def risS (d : Int) : Int := if d = 0 then 1 else (if d ≠ 1 then 0 else 1)
def loS (d x y n : Int) : Int := if risS d = 0 then algS d x y - n else algS d x y
def hiS (d x y n : Int) : Int := if risS d = 0 then algS d x y else algS d x y + n
theorem hi_lo (d x y n : Int) : hiS d x y n - loS d x y n = n := by
  unfold hiS loS
  split <;> omega
def T204 (i t j : Nat) : Prop := (t = 2 ∨ t = 305 ∨ t = 306 ∨ t = 307 ∨ t = 308 ∨ t = 310) ∧ j = i
theorem c204 {i T : Nat} {x y d n : Int} {M : Mm} {Q : Mm → Prop} (hx : 0 ≤ x) (hx1 : x ≤ 48) (hy : 0 ≤ y) (hy1 : y ≤ 48) (hn : 0 ≤ n) (hn1 : n ≤ 48) (hT : M.1 2 i 13 = T) (hT2 : T < 340) (hQ : ∀ M', Fx (T204 i) M M' → M'.2 310 i = upj (M.2 310 i) y.toNat (M.2 310 i y.toNat &&& ((lsh (Int64.ofNat 1) x) ^^^ (Int64.ofInt (-1)))) → M'.1 305 i = putN 340 (M.1 305 i) T d → M'.1 306 i = putN 340 (M.1 306 i) T (linS d x y) → M'.1 307 i = putN 340 (M.1 307 i) T (loS d x y n) → M'.1 308 i = putN 340 (M.1 308 i) T (hiS d x y n) → M'.1 2 i = ups (M.1 2 i) 13 ((T : Int) + 1) → Q M') : E_204 i x y d n M Q := by
  have ha : 0 ≤ algS d x y ∧ algS d x y ≤ 48 := by unfold algS; split <;> omega
  refine s_204_0 ⟨fun g => by omega, fun _ => ⟨fun g => by omega, fun _ => ⟨by omega, fun M1 e1 b eb r er M2 e2 l el M3 e3 => ?_⟩⟩⟩
  have eb' : b = algS d x y := eb
  have er' : r = risS d := er
  have el' : l = linS d x y := el
  have t1 : M1.1 2 i 13 = T := by rw [e1, setJ_1, hT]
  have t2 : M2.1 2 i 13 = T := by rw [e2, setA_ne (by omega), t1]
  have t3 : M3.1 2 i 13 = T := by rw [e3, setA_ne (by omega), t2]
  rw [t1] at e2
  rw [t2, el'] at e3
  refine ⟨fun _ => by omega, fun lo elo M4 e4 => ⟨fun _ => by omega, fun hi ehi M5 e5 => ?_⟩⟩
  have t4 : M4.1 2 i 13 = T := by rw [e4, setA_ne (by omega), t3]
  have t5 : M5.1 2 i 13 = T := by rw [e5, setA_ne (by omega), t4]
  have elo' : lo = loS d x y n := by rw [elo, er', eb']; rfl
  have ehi' : hi = hiS d x y n := by rw [ehi, er', eb']; rfl
  rw [t3, elo'] at e4
  rw [t4, ehi'] at e5
  rw [t5]
  refine ⟨by omega, fun M6 e6 => hQ M6 ?_ ?_ ?_ ?_ ?_ ?_ ?_⟩
  · rw [e6, e5, e4, e3, e2, e1]
    exact (((((Fx.setJ ⟨by simp, rfl⟩).tr (Fx.setA ⟨by simp, rfl⟩)).tr (Fx.setA ⟨by simp, rfl⟩)).tr (Fx.setA ⟨by simp, rfl⟩)).tr (Fx.setA ⟨by simp, rfl⟩)).tr (Fx.setI ⟨by simp, rfl⟩)
  · rw [e6, setI_2, e5, setA_2, e4, setA_2, e3, setA_2, e2, setA_2, e1, setJ_at]
  · rw [e6, setI_ne (by omega), e5, setA_ne (by omega), e4, setA_ne (by omega), e3, setA_ne (by omega), e2, setA_at, e1, setJ_1]
  · rw [e6, setI_ne (by omega), e5, setA_ne (by omega), e4, setA_ne (by omega), e3, setA_at, e2, setA_ne (by omega), e1, setJ_1]
  · rw [e6, setI_ne (by omega), e5, setA_ne (by omega), e4, setA_at, e3, setA_ne (by omega), e2, setA_ne (by omega), e1, setJ_1]
  · rw [e6, setI_ne (by omega), e5, setA_at, e4, setA_ne (by omega), e3, setA_ne (by omega), e2, setA_ne (by omega), e1, setJ_1]
  · rw [e6, setI_at, e5, setA_ne (by omega), e4, setA_ne (by omega), e3, setA_ne (by omega), e2, setA_ne (by omega), e1, setJ_1]

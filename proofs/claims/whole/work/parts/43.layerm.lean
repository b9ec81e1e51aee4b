/-! the reference: layers -/
theorem tri_out {n : Nat} {P : Int → Int → Bool} (hP : ∀ x y, P x y = true → 0 ≤ x ∧ x < n ∧ 0 ≤ y ∧ y < n) {x y : Int} (h : ¬ (0 ≤ y ∧ y < n)) : tri P x y = false := by
  unfold tri
  cases e : P x y with
  | false => rfl
  | true => exact absurd (hP x y e).2.2 h
theorem bJ_z3 (x : Nat) : bJ (((Int64.ofNat 0) &&& (lsh (Int64.ofNat 0) 1)) &&& (lus (Int64.ofNat 0) 1)) x = false := by
  rw [bJ_and, bJ_and, bJ_0, Bool.false_and, Bool.false_and]
theorem c1027 {n : Nat} {P : Int → Int → Bool} {M : Mm} {Q : Mm → Prop} (hn : n ≤ 48) (hR : RepN n (M.2 1117 0) P) (hP : ∀ x y, P x y = true → 0 ≤ x ∧ x < n ∧ 0 ≤ y ∧ y < n) (hQ : ∀ M', Fx (fun t j => t = 1117 ∧ j = 0) M M' → RepN n (M'.2 1117 0) (er P) → Q M') : E_1027 (n : Int) M Q := by
  refine s_1027_0 ?_
  have T : ∀ (g : Nat → Int64) (y : Nat), g y = M.2 1117 0 y → y < n → ∀ x, bJ ((g y &&& lsh (g y) 1) &&& lus (g y) 1) x = (decide (x < n) && tri P x y) := by
    intro g y hg hy x
    rw [hg]
    exact tri_bits (by omega) hR hP hy x
  have key := lp_up (P := fun y => ∀ M' (b : Int64), (Fx (fun t j => t = 1117 ∧ j = 0) M M' ∧ (∀ y', y' < y → ∀ x : Nat, bJ (M'.2 1117 0 y') x = (decide (x < n) && er P x y')) ∧ (∀ y', y ≤ y' → M'.2 1117 0 y' = M.2 1117 0 y') ∧ ∀ x : Nat, bJ b x = (decide (x < n) && tri P x ((y : Int) - 1))) → L_1027_5 (n : Int) b (y : Int) M' Q) n ?_ ?_
  · refine key M (Int64.ofNat 0) ⟨Fx.rf, fun y hy => absurd hy (Nat.not_lt_zero y), fun _ _ => rfl, fun x => ?_⟩
    rw [bJ_0, tri_out hP (by omega), Bool.and_false]
  · intro y hy ih M1 b ⟨h1, h2, h3, h4⟩
    refine s_1027_5 ⟨fun g => by omega, fun _ => ⟨by omega, fun x5 e5 x7 e7 => ?_⟩⟩
    rw [Int.toNat_natCast] at e5
    have hx7 : ∀ x, bJ x7 x = (decide (x < n) && tri P x y) := by
      intro x
      rw [e7, e5]
      exact T (M1.2 1117 0) y (h3 y (Nat.le_refl y)) hy x
    have fin : ∀ x11 : Int64, (∀ x, bJ x11 x = (decide (x < n) && tri P x ((y : Int) + 1))) → ∀ M2, M2 = setJ M1 1117 0 (y : Int).toNat ((x7 &&& b) &&& x11) → L_1027_5 (n : Int) x7 ((y : Int) + 1) M2 Q := by
      intro x11 h11 M2 e
      refine ih M2 x7 ⟨h1.tr (by rw [e]; exact Fx.setJ ⟨rfl, rfl⟩), fun y' hy' x => ?_, fun y' hy' => ?_, fun x => ?_⟩
      · rw [e, Int.toNat_natCast, setJ_at]
        by_cases h7 : y' = y
        · subst h7
          rw [upj_at, bJ_and, bJ_and, hx7, h4, h11, er_tri]
          by_cases h8 : x < n
          · rw [decide_eq_true h8]
            simp only [Bool.true_and]
            rw [Bool.and_comm (tri P x y')]
          · rw [decide_eq_false h8]
            simp only [Bool.false_and]
        · rw [upj_ne h7]
          exact h2 y' (by omega) x
      · rw [e, Int.toNat_natCast, setJ_at, upj_ne (by omega)]
        exact h3 y' (by omega)
      · rw [hx7 x, show ((y + 1 : Nat) : Int) - 1 = y by omega]
    refine ⟨by omega, fun g x11 e11 => ⟨by omega, fun M2 e => ⟨by omega, fin x11 (fun x => ?_) M2 e⟩⟩, fun g => ⟨by omega, fun x9 e9 x11 e11 => ⟨by omega, fun M2 e => ⟨by omega, fin x11 (fun x => ?_) M2 e⟩⟩⟩⟩
    · rw [e11, bJ_z3, tri_out hP (by omega), Bool.and_false]
    · rw [show ((y : Int) + 1).toNat = y + 1 by omega] at e9
      rw [e11, e9]
      have := T (M1.2 1117 0) (y + 1) (h3 (y + 1) (by omega)) (by omega) x
      rw [show ((y + 1 : Nat) : Int) = (y : Int) + 1 by omega] at this
      exact this
  · intro M1 b ⟨h1, h2, h3, h4⟩
    exact s_1027_5 ⟨fun _ => hQ M1 h1 h2, fun g => by omega⟩
theorem c1028 {n : Nat} {f : Nat → Int} {M : Mm} {Q : Mm → Prop} (hn : 0 < n) (hn4 : n ≤ 4) (hf : M.1 1101 0 = f) (hR : R12 f) (hQ : ∀ M', Fx (fun t j => t = 1117 ∧ j = 0) M M' → RepN (12 * n) (M'.2 1117 0) (fun x y => cel f (x / n) (y / n)) → Q M') : E_1028 (n : Int) M Q := by
  refine s_1028_0 ?_
  have key := lp_up (P := fun y => ∀ M', (Fx (fun t j => t = 1117 ∧ j = 0) M M' ∧ (∀ y', y' < y → ∀ x : Nat, bJ (M'.2 1117 0 y') x = (decide (x < 12 * n) && cel f ((x : Int) / n) ((y' : Int) / n)))) → L_1028_2 (n : Int) (y : Int) M' Q) (12 * n) ?_ ?_
  · exact key M ⟨Fx.rf, fun y hy => absurd hy (Nat.not_lt_zero y)⟩
  · intro y hy ih M1 ⟨h1, h2⟩
    refine s_1028_2 ⟨by omega, fun g => by omega, fun _ => ?_⟩
    have key2 := lp_up (P := fun c => ∀ r : Int64, (∀ x : Nat, bJ r x = (decide (x < c) && cel f ((x : Int) / n) ((y : Int) / n))) → L_1028_15 (n : Int) (y : Int) r (c : Int) M1 Q) (12 * n) ?_ ?_
    · exact key2 (Int64.ofNat 0) (fun x => by rw [bJ_0, decide_eq_false (by omega), Bool.false_and])
    · intro c hc ih2 r hr
      have e1 : M1.1 1101 0 = f := by rw [(h1 1101 0 (by simp)).1, hf]
      refine s_1028_15 ⟨by omega, fun g => by omega, fun _ => ⟨by omega, fun d ed => ⟨by omega, fun d1 ed1 => ?_⟩⟩⟩
      rw [tdiv_p (by omega)] at ed ed1
      rw [e1, hasW_cel hR, b2i_0, b2i_n, ed, ed1]
      refine ⟨fun hz r2 er2 => ⟨by omega, ih2 r2 fun x => ?_⟩, fun hz r2 er2 => ⟨by omega, ih2 r2 fun x => ?_⟩⟩
      · rw [er2, bJ_or, hr, bJ_shl (by omega), bJ_0]
        by_cases h3 : x = c
        · subst h3
          rw [hz, Bool.and_false, Bool.and_false]
          simp
        · by_cases h4 : x < c
          · rw [decide_eq_true h4, decide_eq_true (show x < c + 1 by omega)]
            simp
          · rw [decide_eq_false h4, decide_eq_false (show ¬ x < c + 1 by omega)]
            simp
      · rw [er2, bJ_or, hr, bJ_shl (by omega), bJ_1]
        by_cases h3 : x = c
        · subst h3
          rw [hz, decide_eq_true (show x < x + 1 by omega), decide_eq_true (show x < 64 by omega), decide_eq_false (show ¬ x < x by omega), decide_eq_true (show x - x = 0 by omega)]
          simp
        · by_cases h4 : x < c
          · rw [decide_eq_true h4, decide_eq_true (show x < c + 1 by omega)]
            simp
          · rw [decide_eq_false h4, decide_eq_false (show ¬ x < c + 1 by omega), decide_eq_false (show ¬ (x - c = 0) by omega)]
            simp
    · intro r hr
      refine s_1028_15 ⟨by omega, fun _ => ⟨by omega, fun M2 e => ⟨by omega, ih M2 ⟨h1.tr (by rw [e]; exact Fx.setJ ⟨rfl, rfl⟩), fun y' hy' x => ?_⟩⟩⟩, fun g => by omega⟩
      rw [e, Int.toNat_natCast, setJ_at]
      by_cases h7 : y' = y
      · subst h7; rw [upj_at]; exact hr x
      · rw [upj_ne h7]; exact h2 y' (by omega) x
  · intro M1 ⟨h1, h2⟩
    exact s_1028_2 ⟨by omega, fun _ => hQ M1 h1 h2, fun g => by omega⟩
theorem or_0 {a b : Int64} : a ||| b = Int64.ofNat 0 ↔ a = Int64.ofNat 0 ∧ b = Int64.ofNat 0 := by
  constructor
  · intro h
    have hb : ∀ x, (bJ a x || bJ b x) = false := fun x => by rw [← bJ_or, h, bJ_0]
    constructor
    · refine bJ_ext fun x _ => ?_
      have := hb x
      rw [Bool.or_eq_false_iff] at this
      rw [this.1, bJ_0]
    · refine bJ_ext fun x _ => ?_
      have := hb x
      rw [Bool.or_eq_false_iff] at this
      rw [this.2, bJ_0]
  · rintro ⟨rfl, rfl⟩
    refine bJ_ext fun x _ => ?_
    rw [bJ_or, bJ_0]
    rfl
theorem c1029 {P : Int → Int → Bool} {M : Mm} {Q : Int → Mm → Prop} (hR : RepN 48 (M.2 1117 0) P) (h0 : cntL P 48 48 = 0 → Q 1 M) (h1 : cntL P 48 48 ≠ 0 → Q 0 M) : E_1029 48 M Q := by
  refine s_1029_0 ?_
  have row0 : ∀ y, y < 48 → (M.2 1117 0 y = Int64.ofNat 0 ↔ cntB (fun x => P x y) 48 = 0) := by
    intro y hy
    constructor
    · intro h
      exact cntB_zero fun x hx => by
        have := hR y hy x
        rw [h, bJ_0, decide_eq_true hx, Bool.true_and] at this
        exact this.symm
    · intro h
      refine bJ_ext fun x _ => ?_
      rw [hR y hy x, bJ_0]
      by_cases hx : x < 48
      · rw [decide_eq_true hx, Bool.true_and]
        cases e : P x y with
        | false => rfl
        | true =>
          have := cntB_one (b := fun x => P (x : Int) (y : Int)) hx e
          omega
      · rw [decide_eq_false hx, Bool.false_and]
  have key := lp_up (P := fun y => ∀ a : Int64, (a = Int64.ofNat 0 ↔ cntL P 48 y = 0) → L_1029_5 48 a (y : Int) M Q) 48 ?_ ?_
  · exact key (Int64.ofNat 0) ⟨fun _ => rfl, fun _ => rfl⟩
  · intro y hy ih a ha
    refine s_1029_5 ⟨fun g => by omega, fun _ => ⟨by omega, fun r er => ⟨by omega, ih r ?_⟩⟩⟩
    rw [er, Int.toNat_natCast, or_0, ha, row0 y hy]
    show _ ↔ cntL P 48 y + cntB (fun x => P x y) 48 = 0
    omega
  · intro a ha
    exact s_1029_5 ⟨fun _ => ⟨fun g => h1 (fun e => g (ha.mpr e)), fun g => h0 (ha.mp g)⟩, fun g => by omega⟩
theorem c1065 {p : Nat} {P : Int → Int → Bool} {M : Mm} {Q : Int → Mm → Prop} (hp : p < 12) (hR : ∀ y, y < 48 → ∀ x : Nat, bJ (M.2 1116 0 (48 * p + y)) x = (decide (x < 48) && P x y)) (hQ : Q (cntL P 48 48 : Int) M) : E_1065 (p : Int) M Q := by
  refine s_1065_0 ?_
  have hR' : RepN 48 (fun y => M.2 1116 0 (48 * p + y)) P := hR
  have key := lp_up (P := fun y => L_1065_4 (p : Int) (cntL P 48 y : Int) (y : Int) M Q) 48 ?_ ?_
  · exact key
  · intro y hy ih
    refine s_1065_4 ⟨fun g => by omega, fun _ => ⟨by omega, ?_⟩⟩
    rw [show (48 * (p : Int) + (y : Int)).toNat = 48 * p + y by omega]
    refine c1003 (by have := hR'.sgn (by omega) hy; exact this) ?_
    rw [show cntB (bJ (M.2 1116 0 (48 * p + y))) 64 = cntB (fun x => P x y) 48 from hR'.cnt (by omega) hy]
    have b1 := cntL_le P 48 (y + 1)
    have e : cntL P 48 (y + 1) = cntL P 48 y + cntB (fun x => P x y) 48 := rfl
    refine ⟨by omega, fun r er => ⟨by omega, ?_⟩⟩
    rw [er, ← Int.natCast_add, ← e]
    exact ih
  · exact s_1065_4 ⟨fun _ => hQ, fun g => by omega⟩
def TW (t j : Nat) : Prop := (t = 10 ∨ t = 1116 ∨ t = 1117 ∨ t = 1151) ∧ j = 0
def PhR (M : Mm) (f : Nat → Int) (k : Nat) : Prop := ∀ y, y < 48 → ∀ x : Nat, bJ (M.2 1116 0 (48 * k + y)) x = (decide (x < 48) && lay f (2 * k + 1) x y)
theorem w_phases {f : Nat → Int} {M0 : Mm} {Q : Mm → Prop} (hQ : ∀ M' n, Fx TW M0 M' → IsN f n → M'.1 10 0 18 = n → M'.1 1151 0 = M0.1 1151 0 → (∀ k, k ≠ 18 → M'.1 10 0 k = M0.1 10 0 k) → (∀ k, k < n → PhR M' f k) → L_1050_159 0 M' Q) : ∀ (r n : Nat) (M : Mm) (x : Int), n + r = 12 → Fx TW M0 M → M.1 1151 0 = M0.1 1151 0 → (∀ k, k ≠ 18 → M.1 10 0 k = M0.1 10 0 k) → M.1 10 0 18 = n → RepN 48 (M.2 1117 0) (lay f (2 * n + 1)) → (∀ k, k < n → lcnt f (2 * k + 1) ≠ 0 ∧ PhR M f k) → L_1050_89 x M Q := by
  intro r
  induction r with
  | zero =>
    intro n M x hn h1 h2 h2b h3 h4 h5
    refine s_1050_89 (c1029 h4 (fun _ => ⟨fun _ => ?_, fun g => absurd g (by decide)⟩) (fun g => absurd (lcnt_24 f (d := 2 * n + 1) (by omega)) g))
    exact hQ M n h1 ⟨fun k hk => (h5 k hk).1, lcnt_24 f (by omega)⟩ h3 h2 h2b (fun k hk => (h5 k hk).2)
  | succ r ih =>
    intro n M x hn h1 h2 h2b h3 h4 h5
    refine s_1050_89 (c1029 h4 (fun g => ⟨fun _ => ?_, fun g => absurd g (by decide)⟩) (fun g => ⟨fun g2 => absurd rfl g2, fun _ => ?_⟩))
    · exact hQ M n h1 ⟨fun k hk => (h5 k hk).1, g⟩ h3 h2 h2b (fun k hk => (h5 k hk).2)
    · have key := lp_up (P := fun y => ∀ M', (Fx (fun t j => t = 1116 ∧ j = 0) M M' ∧ (∀ y', y' < y → M'.2 1116 0 (48 * n + y') = M.2 1117 0 y') ∧ (∀ q, q < 48 * n → M'.2 1116 0 q = M.2 1116 0 q)) → L_1050_100 (y : Int) M' Q) 48 ?_ ?_
      · exact key M ⟨Fx.rf, fun y hy => absurd hy (Nat.not_lt_zero y), fun _ _ => rfl⟩
      · intro y hy ih2 M1 ⟨g1, g2, g3⟩
        have e18 : M1.1 10 0 18 = n := by rw [(g1 10 0 (by simp)).1, h3]
        refine s_1050_100 ⟨fun g => by omega, fun _ => ⟨by rw [e18]; omega, fun M2 e => ⟨by omega, ih2 M2 ⟨g1.tr (by rw [e]; exact Fx.setJ ⟨rfl, rfl⟩), fun y' hy' => ?_, fun q hq => ?_⟩⟩⟩⟩
        all_goals (rw [e18, show (48 * (n : Int) + (y : Int)).toNat = 48 * n + y by omega, Int.toNat_natCast] at e)
        · rw [e, setJ_at]
          by_cases h7 : y' = y
          · subst h7; rw [upj_at, (g1 1117 0 (by simp)).2]
          · rw [upj_ne (by omega)]; exact g2 y' (by omega)
        · rw [e, setJ_at, upj_ne (by omega)]
          exact g3 q hq
      · intro M1 ⟨g1, g2, g3⟩
        have e18 : M1.1 10 0 18 = n := by rw [(g1 10 0 (by simp)).1, h3]
        refine s_1050_100 ⟨fun _ => ⟨by rw [e18]; omega, fun M2 e => ?_⟩, fun g => by omega⟩
        have hP : ∀ (d : Nat) (x y : Int), lay f d x y = true → 0 ≤ x ∧ x < (48 : Nat) ∧ 0 ≤ y ∧ y < (48 : Nat) := fun d x y h => by
          have := lay_in h
          omega
        have r2 : RepN 48 (M2.2 1117 0) (lay f (2 * n + 1)) := by
          rw [e, setI_2, (g1 1117 0 (by simp)).2]
          exact h4
        refine c1027 (n := 48) (by omega) r2 (hP _) fun M3 f3 r3 => c1027 (n := 48) (by omega) (P := lay f (2 * n + 1 + 1)) r3 (hP _) fun M4 f4 r4 => ?_
        have f14 : Fx (fun t j => (t = 10 ∨ t = 1116 ∨ t = 1117) ∧ j = 0) M M4 := (g1.up fun t j g => ⟨Or.inr (Or.inl g.1), g.2⟩).tr ((((by rw [e]; exact Fx.setI ⟨Or.inl rfl, rfl⟩) : Fx (fun t j => (t = 10 ∨ t = 1116 ∨ t = 1117) ∧ j = 0) M1 M2).tr (f3.up fun t j g => ⟨Or.inr (Or.inr g.1), g.2⟩)).tr (f4.up fun t j g => ⟨Or.inr (Or.inr g.1), g.2⟩))
        have e10 : M4.1 10 0 = ups (M1.1 10 0) 18 (M1.1 10 0 18 + 1) := by rw [(f4 10 0 (by simp)).1, (f3 10 0 (by simp)).1, e, setI_at]
        have e16 : M4.2 1116 0 = M1.2 1116 0 := by rw [(f4 1116 0 (by simp)).2, (f3 1116 0 (by simp)).2, e, setI_2]
        refine ih (n + 1) M4 _ (by omega) (h1.tr (f14.up fun t j g => ⟨by rcases g.1 with h | h | h <;> simp [h], g.2⟩)) ?_ (fun k hk => ?_) ?_ ?_ (fun k hk => ?_)
        · rw [(f14 1151 0 (by simp)).1, h2]
        · rw [e10, ups_ne hk, (g1 10 0 (by simp)).1]
          exact h2b k hk
        · rw [e10, ups_at, e18]; rfl
        · exact r4
        · by_cases hk2 : k = n
          · subst hk2
            refine ⟨g, fun y hy x => ?_⟩
            rw [e16, g2 y hy]
            exact h4 y hy x
          · refine ⟨(h5 k (by omega)).1, fun y hy x => ?_⟩
            rw [e16, g3 _ (by omega)]
            exact (h5 k (by omega)).2 y hy x
theorem w_halves {f : Nat → Int} {M0 : Mm} {Q : Mm → Prop} (hf : M0.1 1101 0 = f) (hR : R12 f) (h0 : RepN 24 (M0.2 1117 0) (hay f 0)) (hQ : ∀ M' n, Fx TW M0 M' → IsN f n → M'.1 10 0 18 = n → (∀ h, h < 26 → M'.1 1151 0 h = (hcnt f h : Int)) → (∀ k, k ≠ 18 → M'.1 10 0 k = M0.1 10 0 k) → (∀ k, k < n → PhR M' f k) → L_1050_159 0 M' Q) : L_1050_20 0 M0 Q := by
  have key := lp_up (P := fun h => ∀ M', (Fx (fun t j => (t = 1117 ∨ t = 1151) ∧ j = 0) M0 M' ∧ RepN 24 (M'.2 1117 0) (hay f h) ∧ ∀ h', h' < h → M'.1 1151 0 h' = (hcnt f h' : Int)) → L_1050_20 (h : Int) M' Q) 26 ?_ ?_
  · exact key M0 ⟨Fx.rf, h0, fun y hy => absurd hy (Nat.not_lt_zero y)⟩
  · intro h hh ih M1 ⟨g1, g2, g3⟩
    refine s_1050_20 ⟨fun g => by omega, fun _ => ?_⟩
    have key2 := lp_up (P := fun y => L_1050_30 (h : Int) (cntL (hay f h) 24 y : Int) (y : Int) M1 Q) 24 ?_ ?_
    · exact key2
    · intro y hy ih2
      refine s_1050_30 ⟨fun g => by omega, fun _ => ⟨by omega, ?_⟩⟩
      rw [Int.toNat_natCast]
      refine c1003 (g2.sgn (by omega) hy) ?_
      rw [g2.cnt (by omega) hy]
      have b1 := cntL_le (hay f h) 24 (y + 1)
      have e : cntL (hay f h) 24 (y + 1) = cntL (hay f h) 24 y + cntB (fun x => hay f h x y) 24 := rfl
      refine ⟨by omega, fun r er => ⟨by omega, ?_⟩⟩
      rw [er, ← Int.natCast_add, ← e]
      exact ih2
    · refine s_1050_30 ⟨fun _ => ⟨by omega, fun M2 e => ?_⟩, fun g => by omega⟩
      rw [Int.toNat_natCast] at e
      have hP : ∀ x y : Int, hay f h x y = true → 0 ≤ x ∧ x < (24 : Nat) ∧ 0 ≤ y ∧ y < (24 : Nat) := fun x y h => by
        have := hay_in h
        omega
      refine c1027 (n := 24) (by omega) (P := hay f h) (by rw [e, setI_2]; exact g2) hP fun M3 f3 r3 => ⟨by omega, ih M3 ⟨?_, r3, fun h' hh' => ?_⟩⟩
      · exact g1.tr (((by rw [e]; exact Fx.setI ⟨Or.inr rfl, rfl⟩) : Fx (fun t j => (t = 1117 ∨ t = 1151) ∧ j = 0) M1 M2).tr (f3.up fun t j g => ⟨Or.inl g.1, g.2⟩))
      · rw [(f3 1151 0 (by simp)).1, e, setI_at]
        by_cases h7 : h' = h
        · subst h7; rw [ups_at]; rfl
        · rw [ups_ne h7]; exact g3 h' (by omega)
  · intro M1 ⟨g1, g2, g3⟩
    have e1 : M1.1 1101 0 = f := by rw [(g1 1101 0 (by simp)).1, hf]
    refine s_1050_20 ⟨fun _ => ?_, fun g => by omega⟩
    refine c1028 (n := 4) (by omega) (by omega) e1 hR fun M2 f2 r2 => fun M3 e3 => ?_
    have hP : ∀ x y : Int, lay f 0 x y = true → 0 ≤ x ∧ x < (48 : Nat) ∧ 0 ≤ y ∧ y < (48 : Nat) := fun x y h => by
      have := lay_in h
      omega
    have r3 : RepN 48 (M3.2 1117 0) (lay f 0) := by
      rw [e3, setI_2]
      exact r2
    refine c1027 (n := 48) (by omega) r3 hP fun M4 f4 r4 => ?_
    have f14 : Fx TW M0 M4 := (g1.up fun t j g => ⟨by rcases g.1 with h | h <;> simp [h], g.2⟩).tr (((f2.up fun t j g => ⟨by simp [g.1], g.2⟩).tr ((by rw [e3]; exact Fx.setI ⟨Or.inl rfl, rfl⟩) : Fx TW M2 M3)).tr (f4.up fun t j g => ⟨by simp [g.1], g.2⟩))
    have e10 : M4.1 10 0 = ups (M0.1 10 0) 18 0 := by rw [(f4 10 0 (by simp)).1, e3, setI_at, (f2 10 0 (by simp)).1, (g1 10 0 (by simp)).1]
    refine w_phases (f := f) (M0 := M4) (fun M' n k1 k2 k3 k4 k5 k6 => hQ M' n (f14.tr k1) k2 k3 (fun h hh => ?_) (fun k hk => ?_) k6) 12 0 M4 _ rfl Fx.rf rfl (fun _ _ => rfl) ?_ r4 (fun k hk => absurd hk (Nat.not_lt_zero k))
    · rw [k4, (f4 1151 0 (by simp)).1, e3, setI_ne (by omega), (f2 1151 0 (by simp)).1]
      exact g3 h hh
    · rw [k5 k hk, e10, ups_ne hk]
    · rw [e10, ups_at]; rfl

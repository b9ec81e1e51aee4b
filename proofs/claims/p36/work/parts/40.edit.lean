/-! the class: history, turn and mirror -/
theorem c101 {i s u : Nat} {M : Mm} {Q : Mm → Prop} (hs : M.1 1 0 1 = s) (h9 : s < 9) (hu : M.1 1 0 2 = u) (h8 : u ≤ 8) (hQ : ∀ M', Fx (fun t j => (t = 1 ∨ t = 200) ∧ j = 0) M M' → M'.1 1 0 1 = ((s + 1) % 9 : Nat) → M'.1 1 0 2 = (if u = 8 then 8 else u + 1 : Nat) → M'.1 1 0 3 = 0 → (∀ y, y < 12 → M'.1 200 0 ((s + 1) % 9 * 12 + y) = M.1 500 i y) → (∀ q, q < 108 → q / 12 ≠ (s + 1) % 9 → M'.1 200 0 q = M.1 200 0 q) → Q M') : E_101 i M Q := by
  refine s_101_0 ⟨by omega, fun d ed M1 e1 => ?_⟩
  rw [hs, tmod_p (by omega)] at ed
  have hd : d = ((s + 1) % 9 : Nat) := by omega
  have f1 : Fx (fun t j => (t = 1 ∨ t = 200) ∧ j = 0) M M1 := by rw [e1]; exact Fx.setI ⟨Or.inl rfl, rfl⟩
  have a1 : M1.1 1 0 1 = ((s + 1) % 9 : Nat) := by rw [e1, setI_at, ups_at, hd]
  have a2 : M1.1 1 0 2 = u := by rw [e1, setI_at, ups_ne (by omega), hu]
  have a3 : M1.1 200 0 = M.1 200 0 := by rw [e1, setI_ne (by omega)]
  have a4 : M1.1 500 i = M.1 500 i := by rw [e1, setI_ne (by omega)]
  generalize hs' : (s + 1) % 9 = s' at *
  have h9' : s' < 9 := by omega
  have key := lp_up (P := fun k => ∀ M', (Fx (fun t j => t = 200 ∧ j = 0) M1 M' ∧ (∀ y, y < k → M'.1 200 0 (s' * 12 + y) = M.1 500 i y) ∧ (∀ q, q < 108 → q / 12 ≠ s' → M'.1 200 0 q = M.1 200 0 q)) → L_101_15 i (k : Int) M' Q) 12 ?_ ?_
  · exact key M1 ⟨Fx.rf, fun y hy => absurd hy (Nat.not_lt_zero y), fun q _ _ => by rw [a3]⟩
  · intro k hk ih M2 ⟨h1, h2, h3⟩
    have b1 : M2.1 1 0 1 = s' := by rw [(h1 1 0 (by simp)).1, a1]
    have b2 : M2.1 500 i = M.1 500 i := by rw [(h1 500 i (by simp)).1, a4]
    refine s_101_15 ⟨fun g => by omega, fun _ => ⟨by rw [b1]; omega, fun M3 e => ⟨by omega, ?_⟩⟩⟩
    refine ih M3 ⟨h1.tr (by rw [e]; exact Fx.setA ⟨rfl, rfl⟩), fun y hy => ?_, fun q hq1 hq2 => ?_⟩
    · rw [e, setA_at, b1, b2]
      by_cases g : y = k
      · subst g
        rw [putN_at (by omega) (by omega), atN_i (by omega) (by omega), Int.toNat_natCast]
      · rw [putN_ne (by omega)]
        exact h2 y (by omega)
    · rw [e, setA_at, b1, putN_ne (by omega)]
      exact h3 q hq1 hq2
  · intro M2 ⟨h1, h2, h3⟩
    have b2 : M2.1 1 0 2 = u := by rw [(h1 1 0 (by simp)).1, a2]
    refine s_101_15 ⟨fun _ => ⟨by rw [b2]; omega, fun M3 e3 M4 e4 => ?_⟩, fun g => by omega⟩
    have c1 : M4.1 1 0 = ups (ups (M2.1 1 0) 2 (if 8 < M2.1 1 0 2 + 1 then 8 else M2.1 1 0 2 + 1)) 3 0 := by rw [e4, setI_at, e3, setI_at]
    have c2 : M4.1 200 0 = M2.1 200 0 := by rw [e4, setI_ne (by omega), e3, setI_ne (by omega)]
    refine hQ M4 ?_ ?_ ?_ ?_ ?_ ?_
    · refine f1.tr ((h1.up fun t j g => ⟨Or.inr g.1, g.2⟩).tr ?_)
      rw [e4, e3]
      exact (Fx.setI ⟨Or.inl rfl, rfl⟩).tr (Fx.setI ⟨Or.inl rfl, rfl⟩)
    · rw [c1, ups_ne (by omega), ups_ne (by omega), (h1 1 0 (by simp)).1, a1]
    · rw [c1, ups_ne (by omega), ups_at, b2]
      by_cases g : u = 8
      · rw [if_pos (by omega), if_pos g]; rfl
      · rw [if_neg (by omega), if_neg g]; rfl
    · rw [c1, ups_at]
    · intro y hy
      rw [c2]
      exact h2 y hy
    · intro q h4 h5
      rw [c2]
      exact h3 q h4 h5
/-! turned and mirrored rows -/
/-- column v turned, rows below y read -/
def tq (f : Nat → Int) (v : Nat) : Nat → Int
  | 0 => 0
  | y + 1 => if cel f v y then ior' (tq f v y) (ish 1 (11 - (y : Int))) else tq f v y
/-- row y mirrored, cells below x read -/
def mq (f : Nat → Int) (y : Nat) : Nat → Int
  | 0 => 0
  | x + 1 => if cel f x y then ior' (mq f y x) (ish 1 (11 - (x : Int))) else mq f y x
theorem ior_in (a b : Int) : inR (ior' a b) := ti_in _
theorem bZ_one {k x : Nat} (hk : k < 12) : bZ (ish 1 (11 - (k : Int))) x = decide (x = 11 - k) := by
  rw [show (11 - (k : Int)) = ((11 - k : Nat) : Int) by omega, bZ_shl (by omega), bZ_1]
  by_cases h : x = 11 - k
  · rw [decide_eq_true (show x < 32 by omega), decide_eq_false (show ¬ x < 11 - k by omega), decide_eq_true (show x - (11 - k) = 0 by omega), decide_eq_true h]
    rfl
  · rw [decide_eq_false h]
    by_cases h2 : x < 11 - k
    · rw [decide_eq_true h2]
      simp
    · rw [decide_eq_false (show ¬ (x - (11 - k) = 0) by omega)]
      simp
theorem tq_bit {f : Nat → Int} {v : Nat} : ∀ {y : Nat}, y ≤ 12 → inR (tq f v y) ∧ ∀ u, bZ (tq f v y) u = (decide (u < 12 ∧ 11 - u < y) && cel f v ((11 - u : Nat) : Int))
  | 0, _ => ⟨by unfold inR tq; omega, fun u => by
    rw [decide_eq_false (by omega), Bool.false_and]
    exact bZ_0 u⟩
  | y + 1, h => by
    obtain ⟨h1, h2⟩ := tq_bit (f := f) (v := v) (y := y) (by omega)
    by_cases hc : cel f v y = true
    · have e : tq f v (y + 1) = ior' (tq f v y) (ish 1 (11 - (y : Int))) := by show (if cel f v y then ior' (tq f v y) (ish 1 (11 - (y : Int))) else tq f v y) = _; rw [if_pos hc]
      rw [e]
      refine ⟨ior_in _ _, fun u => ?_⟩
      rw [bZ_or, h2, bZ_one (by omega)]
      by_cases hu : u = 11 - y
      · have e2 : 11 - u = y := by omega
        rw [decide_eq_true hu, decide_eq_true (show u < 12 ∧ 11 - u < y + 1 by omega), e2, hc]
        simp
      · rw [decide_eq_false hu, Bool.or_false]
        by_cases h3 : u < 12 ∧ 11 - u < y
        · rw [decide_eq_true h3, decide_eq_true (show u < 12 ∧ 11 - u < y + 1 by omega)]
        · rw [decide_eq_false h3, decide_eq_false (show ¬ (u < 12 ∧ 11 - u < y + 1) by omega)]
    · have e : tq f v (y + 1) = tq f v y := by show (if cel f v y then ior' (tq f v y) (ish 1 (11 - (y : Int))) else tq f v y) = _; rw [if_neg hc]
      rw [e]
      refine ⟨h1, fun u => ?_⟩
      rw [h2]
      by_cases hu : u < 12 ∧ 11 - u = y
      · rw [hu.2, Bool.eq_false_iff.mpr hc, Bool.and_false, Bool.and_false]
      · by_cases h3 : u < 12 ∧ 11 - u < y
        · rw [decide_eq_true h3, decide_eq_true (show u < 12 ∧ 11 - u < y + 1 by omega)]
        · rw [decide_eq_false h3, decide_eq_false (show ¬ (u < 12 ∧ 11 - u < y + 1) by omega)]
theorem mq_bit {f : Nat → Int} {y : Nat} : ∀ {x : Nat}, x ≤ 12 → inR (mq f y x) ∧ ∀ u, bZ (mq f y x) u = (decide (u < 12 ∧ 11 - u < x) && cel f ((11 - u : Nat) : Int) y)
  | 0, _ => ⟨by unfold inR mq; omega, fun u => by
    rw [decide_eq_false (by omega), Bool.false_and]
    exact bZ_0 u⟩
  | x + 1, h => by
    obtain ⟨h1, h2⟩ := mq_bit (f := f) (y := y) (x := x) (by omega)
    by_cases hc : cel f x y = true
    · have e : mq f y (x + 1) = ior' (mq f y x) (ish 1 (11 - (x : Int))) := by show (if cel f x y then ior' (mq f y x) (ish 1 (11 - (x : Int))) else mq f y x) = _; rw [if_pos hc]
      rw [e]
      refine ⟨ior_in _ _, fun u => ?_⟩
      rw [bZ_or, h2, bZ_one (by omega)]
      by_cases hu : u = 11 - x
      · have e2 : 11 - u = x := by omega
        rw [decide_eq_true hu, decide_eq_true (show u < 12 ∧ 11 - u < x + 1 by omega), e2, hc]
        simp
      · rw [decide_eq_false hu, Bool.or_false]
        by_cases h3 : u < 12 ∧ 11 - u < x
        · rw [decide_eq_true h3, decide_eq_true (show u < 12 ∧ 11 - u < x + 1 by omega)]
        · rw [decide_eq_false h3, decide_eq_false (show ¬ (u < 12 ∧ 11 - u < x + 1) by omega)]
    · have e : mq f y (x + 1) = mq f y x := by show (if cel f x y then ior' (mq f y x) (ish 1 (11 - (x : Int))) else mq f y x) = _; rw [if_neg hc]
      rw [e]
      refine ⟨h1, fun u => ?_⟩
      rw [h2]
      by_cases hu : u < 12 ∧ 11 - u = x
      · rw [hu.2, Bool.eq_false_iff.mpr hc, Bool.and_false, Bool.and_false]
      · by_cases h3 : u < 12 ∧ 11 - u < x
        · rw [decide_eq_true h3, decide_eq_true (show u < 12 ∧ 11 - u < x + 1 by omega)]
        · rw [decide_eq_false h3, decide_eq_false (show ¬ (u < 12 ∧ 11 - u < x + 1) by omega)]
theorem lt12 {v : Int} (h : inR v) (hb : ∀ x, 12 ≤ x → bZ v x = false) : 0 ≤ v ∧ v < 4096 := bZ_lt h (n := 12) (by omega) (fun x hx _ => hb x hx)
theorem tq_12 (f : Nat → Int) : R12 (fun v => tq f v 12) := fun v _ => lt12 (tq_bit (Nat.le_refl 12)).1 (fun x hx => by rw [(tq_bit (Nat.le_refl 12)).2, decide_eq_false (by omega), Bool.false_and])
theorem mq_12 (f : Nat → Int) : R12 (fun y => mq f y 12) := fun v _ => lt12 (mq_bit (Nat.le_refl 12)).1 (fun x hx => by rw [(mq_bit (Nat.le_refl 12)).2, decide_eq_false (by omega), Bool.false_and])
theorem ior_0 {a : Int} (h : inR a) {k : Int} (hk : 0 ≤ k) (hk2 : k < 32) : ior' a (ish 0 k) = a := by
  obtain ⟨n, rfl⟩ : ∃ n : Nat, k = n := ⟨k.toNat, by omega⟩
  refine bZ_ext (ior_in _ _) h (fun x _ => ?_)
  rw [bZ_or, bZ_shl (by omega), bZ_0]
  simp
theorem c407 {i : Nat} {M : Mm} {Q : Mm → Prop} (hR : R12 (M.1 500 i)) (hQ : ∀ M', Fx (fun t j => (t = 500 ∨ t = 501) ∧ j = i) M M' → (∀ v, v < 12 → M'.1 500 i v = tq (M.1 500 i) v 12) → Q M') : E_407 i M Q := by
  refine s_407_0 fun M1 e1 => ?_
  have f1 : Fx (fun t j => (t = 500 ∨ t = 501) ∧ j = i) M M1 := by rw [e1]; exact Fx.setA ⟨Or.inr rfl, rfl⟩
  have a1 : M1.1 500 i = M.1 500 i := by rw [e1, setA_ne (by omega)]
  have a2 : ∀ v, v < 12 → M1.1 501 i v = 0 := by
    intro v hv
    rw [e1, setA_at]
    unfold upTo
    rw [if_pos hv]
  generalize hf : M.1 500 i = f at *
  have copy : ∀ M2, Fx (fun t j => (t = 500 ∨ t = 501) ∧ j = i) M M2 → (∀ v, v < 12 → M2.1 501 i v = tq f v 12) → L_407_65 i 0 M2 Q := by
    intro M2 f2 h2
    have key := lp_up (P := fun k => ∀ M', (Fx (fun t j => t = 500 ∧ j = i) M2 M' ∧ ∀ y, y < k → M'.1 500 i y = tq f y 12) → L_407_65 i (k : Int) M' Q) 12 ?_ ?_
    · exact key M2 ⟨Fx.rf, fun y hy => absurd hy (Nat.not_lt_zero y)⟩
    · intro k hk ih M3 ⟨g1, g2⟩
      refine s_407_65 ⟨fun g => by omega, fun _ => ⟨by omega, fun M4 e => ⟨by omega, ?_⟩⟩⟩
      refine ih M4 ⟨g1.tr (by rw [e]; exact Fx.setI ⟨rfl, rfl⟩), fun y hy => ?_⟩
      rw [e, setI_at, Int.toNat_natCast, (g1 501 i (by simp)).1, atN_i (by omega) (by omega), Int.toNat_natCast, h2 k hk]
      by_cases g : y = k
      · subst g; rw [ups_at]
      · rw [ups_ne g]; exact g2 y (by omega)
    · intro M3 ⟨g1, g2⟩
      exact s_407_65 ⟨fun _ => hQ M3 (f2.tr (g1.up fun t j g => ⟨Or.inl g.1, g.2⟩)) g2, fun g => by omega⟩
  have key := lp_up (P := fun y => ∀ M', (Fx (fun t j => t = 501 ∧ j = i) M1 M' ∧ ∀ v, v < 12 → M'.1 501 i v = tq f v y) → L_407_10 i (y : Int) M' Q) 12 ?_ ?_
  · exact key M1 ⟨Fx.rf, a2⟩
  · intro y hy ih M2 ⟨h1, h2⟩
    refine s_407_10 ⟨fun g => by omega, fun _ => ?_⟩
    have key2 := lp_up (P := fun x => ∀ M', (Fx (fun t j => t = 501 ∧ j = i) M1 M' ∧ (∀ v, v < x → M'.1 501 i v = tq f v (y + 1)) ∧ ∀ v, x ≤ v → v < 12 → M'.1 501 i v = tq f v y) → L_407_18 i (y : Int) (x : Int) M' Q) 12 ?_ ?_
    · exact key2 M2 ⟨h1, fun v hv => absurd hv (Nat.not_lt_zero v), fun v _ hv => h2 v hv⟩
    · intro x hx ih2 M3 ⟨g1, g2, g3⟩
      have b1 : M3.1 500 i = f := by rw [(g1 500 i (by simp)).1, a1]
      refine s_407_18 ⟨fun g => by omega, fun _ => ?_⟩
      rw [b1, hasV_cel hR, b2i_0, b2i_n]
      refine ⟨fun hc => ⟨by omega, ih2 M3 ⟨g1, fun v hv => ?_, fun v h5 h6 => g3 v (by omega) h6⟩⟩, fun hc => ⟨by omega, fun M4 e => ⟨by omega, ih2 M4 ⟨g1.tr (by rw [e]; exact Fx.setI ⟨rfl, rfl⟩), fun v hv => ?_, fun v h5 h6 => ?_⟩⟩⟩⟩
      · by_cases h7 : v = x
        · subst h7
          rw [g3 v (Nat.le_refl v) hx, tq, if_neg (by rw [hc]; decide)]
        · exact g2 v (by omega)
      · rw [e, setI_at, Int.toNat_natCast]
        by_cases h7 : v = x
        · subst h7
          rw [ups_at, g3 v (Nat.le_refl v) hx, tq, if_pos hc]
        · rw [ups_ne h7]; exact g2 v (by omega)
      · rw [e, setI_at, Int.toNat_natCast, ups_ne (by omega)]
        exact g3 v (by omega) h6
    · intro M3 ⟨g1, g2, g3⟩
      exact s_407_18 ⟨fun _ => ⟨by omega, ih M3 ⟨g1, g2⟩⟩, fun g => by omega⟩
  · intro M2 ⟨h1, h2⟩
    exact s_407_10 ⟨fun _ => copy M2 (f1.tr (h1.up fun t j g => ⟨Or.inr g.1, g.2⟩)) h2, fun g => by omega⟩
theorem c408 {i : Nat} {M : Mm} {Q : Mm → Prop} (hR : R12 (M.1 500 i)) (hQ : ∀ M', Fx (fun t j => t = 500 ∧ j = i) M M' → (∀ v, v < 12 → M'.1 500 i v = mq (M.1 500 i) v 12) → Q M') : E_408 i M Q := by
  refine s_408_0 ?_
  generalize hf : M.1 500 i = f at *
  have key := lp_up (P := fun y => ∀ M', (Fx (fun t j => t = 500 ∧ j = i) M M' ∧ (∀ v, v < y → M'.1 500 i v = mq f v 12) ∧ ∀ v, y ≤ v → M'.1 500 i v = f v) → L_408_2 i (y : Int) M' Q) 12 ?_ ?_
  · exact key M ⟨Fx.rf, fun v hv => absurd hv (Nat.not_lt_zero v), fun v _ => by rw [hf]⟩
  · intro y hy ih M2 ⟨h1, h2, h3⟩
    refine s_408_2 ⟨fun g => by omega, fun _ => ?_⟩
    have key2 := lp_up (P := fun x => L_408_15 i (y : Int) (mq f y x) (x : Int) M2 Q) 12 ?_ ?_
    · exact key2
    · intro x hx ih2
      refine s_408_15 ⟨fun g => by omega, fun _ => ⟨by omega, fun r er => ⟨by omega, ?_⟩⟩⟩
      have e : r = mq f y (x + 1) := by
        rw [er, Int.toNat_natCast, h3 y (Nat.le_refl y)]
        have hb := bit_row hR (x := x) (y := y) (by omega)
        rw [Int.toNat_natCast] at hb
        rw [hb, mq]
        by_cases hc : cel f x y = true
        · rw [if_pos hc, if_pos hc]
        · rw [if_neg hc, if_neg hc]
          exact ior_0 (mq_bit (by omega)).1 (by omega) (by omega)
      rw [e]
      exact ih2
    · refine s_408_15 ⟨fun _ => ⟨by omega, fun M3 e => ⟨by omega, ih M3 ⟨h1.tr (by rw [e]; exact Fx.setI ⟨rfl, rfl⟩), fun v hv => ?_, fun v hv => ?_⟩⟩⟩, fun g => by omega⟩
      · rw [e, setI_at, Int.toNat_natCast]
        by_cases h7 : v = y
        · subst h7; rw [ups_at]
        · rw [ups_ne h7]; exact h2 v (by omega)
      · rw [e, setI_at, Int.toNat_natCast, ups_ne (by omega)]
        exact h3 v (by omega)
  · intro M2 ⟨h1, h2, h3⟩
    exact s_408_2 ⟨fun _ => hQ M2 h1 h2, fun g => by omega⟩

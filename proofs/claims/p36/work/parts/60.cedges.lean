/-! the class's edges, by groups -/
theorem cntB_cP (b : Nat → Bool) : ∀ n, cntB b n = cP (fun x => b x = true) n
  | 0 => rfl
  | n + 1 => by
    show cntB b n + (bif b n then 1 else 0) = _
    cases e : b n with
    | true => rw [cP_y e, cntB_cP b n]; rfl
    | false => rw [cP_n (by rw [e]; decide), cntB_cP b n]; rfl
theorem cntB_y {b : Nat → Bool} {n : Nat} (h : b n = true) : cntB b (n + 1) = cntB b n + 1 := by
  show cntB b n + (bif b n then 1 else 0) = _
  rw [h]; rfl
theorem cntB_n {b : Nat → Bool} {n : Nat} (h : b n = false) : cntB b (n + 1) = cntB b n := by
  show cntB b n + (bif b n then 1 else 0) = _
  rw [h]; rfl
theorem cntB_mono {b : Nat → Bool} {n m : Nat} (h : n ≤ m) : cntB b n ≤ cntB b m := by
  rw [cntB_cP, cntB_cP]
  exact cP_mono h
section KS
variable (kk : Nat → Nat) (T : Nat)
def cK (i κ : Nat) : Nat := cntB (fun j => decide (kk j = κ)) i
def SK : Nat → Nat
  | 0 => 0
  | κ + 1 => SK κ + cK kk T κ
def gN (i : Nat) : Nat := cntB (fun j => decide (cK kk j (kk j) = 0)) i
theorem cK_y {i κ : Nat} (h : kk i = κ) : cK kk (i + 1) κ = cK kk i κ + 1 := cntB_y (decide_eq_true h)
theorem cK_n {i κ : Nat} (h : kk i ≠ κ) : cK kk (i + 1) κ = cK kk i κ := cntB_n (decide_eq_false h)
theorem SK_lt : ∀ κ, SK kk T κ = cntB (fun j => decide (kk j < κ)) T
  | 0 => (cntB_zero fun x _ => decide_eq_false (Nat.not_lt_zero _)).symm
  | κ + 1 => by
    show SK kk T κ + cK kk T κ = _
    rw [SK_lt κ]
    have key : ∀ n, cntB (fun j => decide (kk j < κ)) n + cK kk n κ = cntB (fun j => decide (kk j < κ + 1)) n := by
      intro n
      induction n with
      | zero => rfl
      | succ n ih =>
        by_cases h1 : kk n < κ
        · rw [cntB_y (decide_eq_true h1), cK_n kk (by omega), cntB_y (decide_eq_true (by omega)), ← ih]; omega
        · by_cases h2 : kk n = κ
          · rw [cntB_n (decide_eq_false h1), cK_y kk h2, cntB_y (decide_eq_true (by omega)), ← ih]; omega
          · rw [cntB_n (decide_eq_false h1), cK_n kk h2, cntB_n (decide_eq_false (by omega)), ← ih]
    exact key T
theorem SK_le (κ : Nat) : SK kk T κ ≤ T := by rw [SK_lt]; exact cntB_le _ _
theorem cK_mono {i j κ : Nat} (h : i ≤ j) : cK kk i κ ≤ cK kk j κ := cntB_mono h
theorem cK_lt {i j κ : Nat} (h : i < j) (hk : kk i = κ) : cK kk i κ < cK kk j κ := Nat.lt_of_lt_of_le (by rw [cK_y kk hk]; omega) (cK_mono kk (show i + 1 ≤ j from h))
theorem SK_mono {κ κ' : Nat} (h : κ ≤ κ') : SK kk T κ ≤ SK kk T κ' := by
  induction κ' with
  | zero => rw [show κ = 0 by omega]; exact Nat.le_refl _
  | succ κ' ih =>
    by_cases e : κ = κ' + 1
    · rw [e]; exact Nat.le_refl _
    · exact Nat.le_trans (ih (by omega)) (Nat.le_add_right _ _)
/-- places differ -/
theorem pos_inj {i j : Nat} (hi : i < T) (hj : j < T) (e : SK kk T (kk i) + cK kk i (kk i) = SK kk T (kk j) + cK kk j (kk j)) : i = j := by
  have ek : kk i = kk j := by
    rcases Nat.lt_trichotomy (kk i) (kk j) with g | g | g
    · have := SK_mono kk T (show kk i + 1 ≤ kk j from g)
      have h2 : SK kk T (kk i + 1) = SK kk T (kk i) + cK kk T (kk i) := rfl
      have := cK_lt kk hi (rfl : kk i = kk i)
      omega
    · exact g
    · have := SK_mono kk T (show kk j + 1 ≤ kk i from g)
      have h2 : SK kk T (kk j + 1) = SK kk T (kk j) + cK kk T (kk j) := rfl
      have := cK_lt kk hj (rfl : kk j = kk j)
      omega
  rw [ek] at e
  rcases Nat.lt_trichotomy i j with g | g | g
  · have := cK_lt kk g ek; omega
  · exact g
  · have := cK_lt kk g (rfl : kk j = kk j); omega
theorem gN_le (h : ∀ i, i < T → kk i < 52) : gN kk T ≤ 52 := by
  unfold gN
  rw [cntB_cP]
  refine cP_pig T 52 kk (fun i hi _ => h i hi) (fun i j hi hj h1 h2 e => ?_)
  have h1 := of_decide_eq_true h1
  have h2 := of_decide_eq_true h2
  rcases Nat.lt_trichotomy i j with g | g | g
  · have := cK_lt kk g e; omega
  · exact g
  · have := cK_lt kk g (e.symm); omega
end KS
theorem unit_b : ((List.range 1002).all fun k => decide (isr (k : Int) 2 = (k : Int) / 4)) = true := by decide +kernel
theorem unitV_d {q : Int} (h0 : -1 ≤ q) (h1 : q ≤ 1000) : unitV q = (q + 1) / 4 := by
  unfold unitV
  have h := of_decide_eq_true (List.all_eq_true.mp unit_b (q + 1).toNat (List.mem_range.mpr (by omega)))
  rw [Int.toNat_of_nonneg (by omega)] at h
  exact h
/-- the key of an edge -/
def kE (P : Int → Int → Bool) (xs ys : Nat → Int) (i : Nat) : Nat := (eD P xs ys i * 13 + eL P xs ys i).toNat
/-- edges in order -/
def EdG (P : Int → Int → Bool) (T : Nat) (xs ys : Nat → Int) (ln : Nat → Nat) : Prop := T ≤ 312 ∧ ∀ i, i < T → Dir (eD P xs ys i) ∧ (0 ≤ eL P xs ys i ∧ eL P xs ys i ≤ 12) ∧ (0 ≤ eLo P xs ys ln i ∧ eLo P xs ys ln i ≤ 12) ∧ 0 ≤ eHi P xs ys ln i ∧ eHi P xs ys ln i ≤ 12
theorem EdG.of {f : Nat → Int} {n : Nat} {st : Nat → Nat} {xs ys : Nat → Int} {ln : Nat → Nat} (hct : Ct (lay f 1) n st xs ys) (hln : LN (lay f 1) (st n) xs ys ln) : EdG (lay f 1) (st n) xs ys ln := by
  refine ⟨Ct.le (f := f) (k := 0) hct, fun i hi => ?_⟩
  have r := side_rng (lay_g f 1) (pk_nod f 0) (hct.bend hi) (hln i hi)
  refine ⟨(bn_lv (pk_nod f 0) (hct.bend hi)).dir, ?_, ?_, ?_⟩
  · show 0 ≤ (linS (lvd _ _ _) _ _ + 1) / 4 ∧ (linS (lvd _ _ _) _ _ + 1) / 4 ≤ 12
    omega
  · show 0 ≤ (loS (lvd _ _ _) _ _ _ + 1) / 4 ∧ (loS (lvd _ _ _) _ _ _ + 1) / 4 ≤ 12
    omega
  · show 0 ≤ (hiS (lvd _ _ _) _ _ _ + 1) / 4 ∧ (hiS (lvd _ _ _) _ _ _ + 1) / 4 ≤ 12
    omega
theorem EdG.k {P : Int → Int → Bool} {T : Nat} {xs ys : Nat → Int} {ln : Nat → Nat} (h : EdG P T xs ys ln) {i : Nat} (hi : i < T) : kE P xs ys i < 52 ∧ (kE P xs ys i : Int) = eD P xs ys i * 13 + eL P xs ys i := by
  obtain ⟨h1, h2, -⟩ := h.2 i hi
  unfold kE
  unfold Dir at h1
  omega
/-- what the class keeps of edges -/
def EdB (M : Mm) (T : Nat) (P : Int → Int → Bool) (xs ys : Nat → Int) (ln : Nat → Nat) : Prop := M.1 0 0 8 = T ∧ ∀ i, i < T → M.1 100 0 i = eD P xs ys i ∧ M.1 101 0 i = eL P xs ys i ∧ M.1 102 0 i = eLo P xs ys ln i ∧ M.1 103 0 i = eHi P xs ys ln i
def EdC (M : Mm) (T : Nat) (P : Int → Int → Bool) (xs ys : Nat → Int) (ln : Nat → Nat) : Prop := EdB M T P xs ys ln ∧ (∀ κ, κ ≤ 52 → M.1 105 0 κ = SK (kE P xs ys) T κ) ∧ (∀ κ, κ < 52 → M.1 106 0 κ = (SK (kE P xs ys) T κ + cK (kE P xs ys) T κ : Nat)) ∧ (∀ i, i < T → M.1 104 0 (SK (kE P xs ys) T (kE P xs ys i) + cK (kE P xs ys) i (kE P xs ys i)) = i) ∧ M.1 0 0 9 = gN (kE P xs ys) T ∧ ∀ i, i < T → cK (kE P xs ys) i (kE P xs ys i) = 0 → M.1 107 0 (gN (kE P xs ys) i) = kE P xs ys i
theorem EdB.at {M : Mm} {T : Nat} {P : Int → Int → Bool} {xs ys : Nat → Int} {ln : Nat → Nat} (h : EdB M T P xs ys ln) (g : EdG P T xs ys ln) {i : Nat} (hi : i < T) : atN 340 (M.1 100 0) (i : Int) = eD P xs ys i ∧ atN 340 (M.1 101 0) (i : Int) = eL P xs ys i ∧ atN 340 (M.1 102 0) (i : Int) = eLo P xs ys ln i ∧ atN 340 (M.1 103 0) (i : Int) = eHi P xs ys ln i := by
  have hT := g.1
  obtain ⟨a, b, c, d⟩ := h.2 i hi
  have e : ∀ F : Nat → Int, atN 340 F (i : Int) = F i := fun F => by rw [atN_i (by omega) (by omega), Int.toNat_natCast]
  rw [e, e, e, e]
  exact ⟨a, b, c, d⟩
def TE (t j : Nat) : Prop := (t = 0 ∨ t = 100 ∨ t = 101 ∨ t = 102 ∨ t = 103 ∨ t = 104 ∨ t = 105 ∨ t = 106 ∨ t = 107) ∧ j = 0
/-- sorted in: the edges below i -/
def So (M : Mm) (T i : Nat) (kk : Nat → Nat) : Prop := (∀ κ, κ ≤ 52 → M.1 105 0 κ = SK kk T κ) ∧ (∀ κ, κ < 52 → M.1 106 0 κ = (SK kk T κ + cK kk i κ : Nat)) ∧ (∀ j, j < i → M.1 104 0 (SK kk T (kk j) + cK kk j (kk j)) = j) ∧ M.1 0 0 9 = gN kk i ∧ ∀ j, j < i → cK kk j (kk j) = 0 → M.1 107 0 (gN kk j) = kk j
theorem c3 {T i : Nat} {P : Int → Int → Bool} {xs ys : Nat → Int} {ln : Nat → Nat} {M : Mm} {Q : Mm → Prop} (hg : EdG P T xs ys ln) (hB : EdB M T P xs ys ln) (hi : i < T) (hS : So M T i (kE P xs ys)) (hQ : ∀ M', Fx TE M M' → EdB M' T P xs ys ln → So M' T (i + 1) (kE P xs ys) → Q M') : E_3 (i : Int) M Q := by
  obtain ⟨s1, s2, s3, s4, s5⟩ := hS
  obtain ⟨b1, b2, -, -⟩ := hB.at hg hi
  obtain ⟨k1, k2⟩ := hg.k hi
  have g52 := gN_le (kE P xs ys) T (fun j hj => (hg.k hj).1)
  have hT := hg.1
  have hend := SK_le (kE P xs ys) T (kE P xs ys i + 1)
  have hend2 : SK (kE P xs ys) T (kE P xs ys i + 1) = SK (kE P xs ys) T (kE P xs ys i) + cK (kE P xs ys) T (kE P xs ys i) := rfl
  have hlt := cK_lt (kE P xs ys) hi (rfl : kE P xs ys i = kE P xs ys i)
  have hgi : gN (kE P xs ys) (i + 1) ≤ gN (kE P xs ys) T := cntB_mono (by omega)
  have hgs : cK (kE P xs ys) i (kE P xs ys i) = 0 → gN (kE P xs ys) (i + 1) = gN (kE P xs ys) i + 1 := fun h => cntB_y (b := fun j => decide (cK (kE P xs ys) j (kE P xs ys j) = 0)) (n := i) (decide_eq_true h)
  have hgn : cK (kE P xs ys) i (kE P xs ys i) ≠ 0 → gN (kE P xs ys) (i + 1) = gN (kE P xs ys) i := fun h => cntB_n (b := fun j => decide (cK (kE P xs ys) j (kE P xs ys j) = 0)) (n := i) (decide_eq_false h)
  have hpos := fun j (hj : j < T) (e : SK (kE P xs ys) T (kE P xs ys j) + cK (kE P xs ys) j (kE P xs ys j) = SK (kE P xs ys) T (kE P xs ys i) + cK (kE P xs ys) i (kE P xs ys i)) => pos_inj (kE P xs ys) T hj hi e
  have hcy := fun κ (h : kE P xs ys i = κ) => cK_y (kE P xs ys) (i := i) (κ := κ) h
  have hcn := fun κ (h : kE P xs ys i ≠ κ) => cK_n (kE P xs ys) (i := i) (κ := κ) h
  have hgm : ∀ j, j < i → cK (kE P xs ys) j (kE P xs ys j) = 0 → gN (kE P xs ys) j < gN (kE P xs ys) i := fun j hj h0 => by
    unfold gN
    rw [cntB_cP, cntB_cP]
    exact cP_lt hj (decide_eq_true h0)
  have hko : ∀ M', (M'.1 100 0 = M.1 100 0 ∧ M'.1 101 0 = M.1 101 0 ∧ M'.1 102 0 = M.1 102 0 ∧ M'.1 103 0 = M.1 103 0 ∧ M'.1 0 0 8 = M.1 0 0 8) → EdB M' T P xs ys ln := fun M' ⟨a, b, c, d, e⟩ => ⟨by rw [e]; exact hB.1, by rw [a, b, c, d]; exact hB.2⟩
  generalize hkk : kE P xs ys = kk at *
  have e6 : atN 52 (M.1 106 0) (kk i : Int) = (SK kk T (kk i) + cK kk i (kk i) : Nat) := by rw [atN_i (by omega) (by omega), Int.toNat_natCast, s2 _ k1]
  have e5 : atN 53 (M.1 105 0) (kk i : Int) = SK kk T (kk i) := by rw [atN_i (by omega) (by omega), Int.toNat_natCast, s1 _ (by omega)]
  refine s_3_0 ?_
  rw [b1, b2, ← k2]
  refine ⟨⟨by unfold inR; have := (hg.2 i hi).1; unfold Dir at this; omega, by unfold inR; omega⟩, fun x2 ex2 x3 ex3 => ?_⟩
  rw [ex2, e6] at ex3
  rw [ex2, e5, ex3]
  -- the end common to both
  have fin : ∀ M2, Fx TE M M2 → (∀ t, t ≠ 0 → t ≠ 107 → M2.1 t 0 = M.1 t 0) → M2.1 0 0 8 = M.1 0 0 8 → M2.1 0 0 9 = gN kk (i + 1) → (∀ j, j < i + 1 → cK kk j (kk j) = 0 → M2.1 107 0 (gN kk j) = kk j) → ∀ M3, M3 = setA M2 104 0 (putN 340 (M2.1 104 0) ((SK kk T (kk i) + cK kk i (kk i) : Nat) : Int) i) → ∀ M4, M4 = setA M3 106 0 (putN 52 (M3.1 106 0) (kk i : Int) (((SK kk T (kk i) + cK kk i (kk i) : Nat) : Int) + 1)) → Q M4 := by
    intro M2 f2 ho h8 h9 h107 M3 e3 M4 e4
    have q104 : M4.1 104 0 = putN 340 (M.1 104 0) ((SK kk T (kk i) + cK kk i (kk i) : Nat) : Int) i := by rw [e4, setA_ne (by omega), e3, setA_at, ho 104 (by omega) (by omega)]
    have q106 : M4.1 106 0 = putN 52 (M.1 106 0) (kk i : Int) (((SK kk T (kk i) + cK kk i (kk i) : Nat) : Int) + 1) := by rw [e4, setA_at, e3, setA_ne (by omega), ho 106 (by omega) (by omega)]
    have qo : ∀ t, t ≠ 104 → t ≠ 106 → M4.1 t 0 = M2.1 t 0 := fun t t1 t2 => by rw [e4, setA_ne (by omega), e3, setA_ne (by omega)]
    refine hQ M4 (f2.tr (by rw [e4, e3]; exact (Fx.setA ⟨by simp, rfl⟩).tr (Fx.setA ⟨by simp, rfl⟩))) (hko M4 ⟨by rw [qo 100 (by omega) (by omega), ho 100 (by omega) (by omega)], by rw [qo 101 (by omega) (by omega), ho 101 (by omega) (by omega)], by rw [qo 102 (by omega) (by omega), ho 102 (by omega) (by omega)], by rw [qo 103 (by omega) (by omega), ho 103 (by omega) (by omega)], by rw [qo 0 (by omega) (by omega), h8]⟩) ⟨fun κ hκ => ?_, fun κ hκ => ?_, fun j hj => ?_, ?_, fun j hj h0 => ?_⟩
    · rw [qo 105 (by omega) (by omega), ho 105 (by omega) (by omega)]; exact s1 κ hκ
    · rw [q106]
      by_cases e : κ = kk i
      · rw [e, putN_at (by omega) rfl, hcy _ rfl]; omega
      · rw [putN_ne (by omega), s2 κ hκ, hcn κ (fun h => e h.symm)]
    · rw [q104]
      by_cases e : j = i
      · subst e
        rw [putN_at (by omega) rfl]
      · have hne : SK kk T (kk j) + cK kk j (kk j) ≠ SK kk T (kk i) + cK kk i (kk i) := fun h => e (hpos j (by omega) h)
        rw [putN_ne (by omega)]
        exact s3 j (by omega)
    · rw [qo 0 (by omega) (by omega), h9]
    · rw [qo 107 (by omega) (by omega)]; exact h107 j hj h0
  refine ⟨fun hne M1 e1 => ⟨by omega, fun M2 e2 => ?_⟩, fun heq M1 e1 => ?_⟩
  · have h0 : cK kk i (kk i) ≠ 0 := by omega
    refine fin M Fx.rf (fun _ _ _ => rfl) rfl (by rw [hgn h0, s4]) (fun j hj hj0 => ?_) M1 e1 M2 e2
    by_cases e : j = i
    · subst e; exact absurd hj0 h0
    · exact s5 j (by omega) hj0
  · have h0 : cK kk i (kk i) = 0 := by omega
    rw [s4] at e1
    have h1 := hgs h0
    have q9 : M1.1 0 0 9 = gN kk i := by rw [e1, setA_ne (by omega), s4]
    rw [q9]
    refine ⟨by omega, fun M2 e2 M3 e3 => ⟨by omega, fun M4 e4 => ?_⟩⟩
    refine fin M2 (by rw [e2, e1]; exact (Fx.setA ⟨by simp, rfl⟩).tr (Fx.setI ⟨by simp, rfl⟩)) (fun t t1 t2 => by rw [e2, setI_ne (by omega), e1, setA_ne (by omega)]) (by rw [e2, setI_at, ups_ne (by omega), e1, setA_ne (by omega)]) (by rw [e2, setI_at, ups_at, h1]; rfl) (fun j hj hj0 => ?_) M3 e3 M4 e4
    rw [e2, setI_ne (by omega), e1, setA_at]
    by_cases e : j = i
    · subst e
      rw [putN_at (by omega) rfl]
    · have := hgm j (by omega) hj0
      rw [putN_ne (by omega)]
      exact s5 j (by omega) hj0
theorem c1 {k n : Nat} {P : Int → Int → Bool} {st : Nat → Nat} {xs ys : Nat → Int} {ln : Nat → Nat} {M : Mm} {Q : Mm → Prop} (hg : EdG P (st n) xs ys ln) (hgr : InG P) (hD : NoD P) (hC : ClO M k P n st xs ys ln) (hQ : ∀ M', Fx TE M M' → EdC M' (st n) P xs ys ln → Q M') : E_1 k M Q := by
  obtain ⟨⟨hct, -⟩, hside, -, -, -, h13, -, -⟩ := hC
  generalize hTT : st n = T at *
  have hT := hg.1
  have hk52 := fun j (hj : j < T) => (hg.k hj).1
  refine s_1_0 fun M1 e1 M2 e2 M3 e3 => ?_
  rw [h13] at e1
  have f3 : Fx TE M M3 := by rw [e3, e2, e1]; exact ((Fx.setI ⟨by simp, rfl⟩).tr (Fx.setI ⟨by simp, rfl⟩)).tr (Fx.setA ⟨by simp, rfl⟩)
  have q8 : M3.1 0 0 = ups (ups (M.1 0 0) 8 (T : Int)) 9 0 := by rw [e3, setA_ne (by omega), e2, setI_at, e1, setI_at]
  have z3 : ∀ κ, κ ≤ 52 → M3.1 105 0 κ = 0 := fun κ hκ => by
    rw [e3, setA_at]
    unfold upTo
    rw [if_pos (by omega)]
  have loop1 : ∀ (s i : Nat) (M' : Mm), i + s = T → Fx TE M M' → M'.1 0 0 8 = T → M'.1 0 0 9 = 0 → (∀ j, j < i → M'.1 100 0 j = eD P xs ys j ∧ M'.1 101 0 j = eL P xs ys j ∧ M'.1 102 0 j = eLo P xs ys ln j ∧ M'.1 103 0 j = eHi P xs ys ln j) → M'.1 105 0 0 = 0 → (∀ κ, κ < 52 → M'.1 105 0 (κ + 1) = cK (kE P xs ys) i κ) → L_1_23 k (i : Int) M' Q := by
    intro s
    induction s with
    | succ s ih =>
      intro i M4 hi g1 g2 g2b g3 g4 g5
      have hiT : i < T := by omega
      obtain ⟨s1, s2, s3, s4, s5⟩ := hside i hiT
      have hdir := (hg.2 i hiT).1
      have hrng := side_rng hgr hD (hct.bend (by rw [hTT]; exact hiT)) s1
      have oa : ∀ M', Fx TE M M' → ∀ t, t = 305 ∨ t = 306 ∨ t = 307 ∨ t = 308 → atN 340 (M'.1 t k) (i : Int) = M.1 t k i := fun M' g t ht => by
        rw [(g t k (by rcases ht with rfl | rfl | rfl | rfl <;> simp [TE])).1, atN_i (by omega) (by omega), Int.toNat_natCast]
      refine s_1_23 ⟨fun g => by rw [g2] at g; omega, fun _ M5 e5 => ?_⟩
      rw [oa M4 g1 305 (by simp), s2] at e5
      have f5 := g1.tr ((by rw [e5]; exact Fx.setA ⟨by simp, rfl⟩) : Fx TE M4 M5)
      rw [oa M5 f5 306 (by simp), s3]
      refine ⟨⟨by omega, by omega⟩, fun M6 e6 => ?_⟩
      rw [unitV_d (by omega) (by omega)] at e6
      have f6 := f5.tr ((by rw [e6]; exact Fx.setA ⟨by simp, rfl⟩) : Fx TE M5 M6)
      rw [oa M6 f6 307 (by simp), s4]
      refine ⟨⟨by omega, by omega⟩, fun M7 e7 => ?_⟩
      rw [unitV_d (by omega) (by omega)] at e7
      have f7 := f6.tr ((by rw [e7]; exact Fx.setA ⟨by simp, rfl⟩) : Fx TE M6 M7)
      rw [oa M7 f7 308 (by simp), s5]
      refine ⟨⟨by omega, by omega⟩, fun M8 e8 => ?_⟩
      rw [unitV_d (by omega) (by omega)] at e8
      have f8 := f7.tr ((by rw [e8]; exact Fx.setA ⟨by simp, rfl⟩) : Fx TE M7 M8)
      have q100 : M8.1 100 0 = putN 340 (M4.1 100 0) i (eD P xs ys i) := by rw [e8, setA_ne (by omega), e7, setA_ne (by omega), e6, setA_ne (by omega), e5, setA_at]; rfl
      have q101 : M8.1 101 0 = putN 340 (M4.1 101 0) i (eL P xs ys i) := by rw [e8, setA_ne (by omega), e7, setA_ne (by omega), e6, setA_at, e5, setA_ne (by omega)]; rfl
      have q102 : M8.1 102 0 = putN 340 (M4.1 102 0) i (eLo P xs ys ln i) := by rw [e8, setA_ne (by omega), e7, setA_at, e6, setA_ne (by omega), e5, setA_ne (by omega)]; rfl
      have q103 : M8.1 103 0 = putN 340 (M4.1 103 0) i (eHi P xs ys ln i) := by rw [e8, setA_at, e7, setA_ne (by omega), e6, setA_ne (by omega), e5, setA_ne (by omega)]; rfl
      have qo : ∀ t, t ≠ 100 → t ≠ 101 → t ≠ 102 → t ≠ 103 → M8.1 t 0 = M4.1 t 0 := fun t t1 t2 t3 t4 => by rw [e8, setA_ne (by omega), e7, setA_ne (by omega), e6, setA_ne (by omega), e5, setA_ne (by omega)]
      have b1 : atN 340 (M8.1 100 0) (i : Int) = eD P xs ys i := by rw [q100, atN_i (by omega) (by omega), Int.toNat_natCast, putN_at (by omega) rfl]
      have b2 : atN 340 (M8.1 101 0) (i : Int) = eL P xs ys i := by rw [q101, atN_i (by omega) (by omega), Int.toNat_natCast, putN_at (by omega) rfl]
      obtain ⟨k1, k2⟩ := hg.k hiT
      rw [b1, b2, ← k2]
      refine ⟨⟨by unfold inR; unfold Dir at hdir; omega, by unfold inR; omega⟩, by omega, fun x3 ex3 => ?_⟩
      have hcle := cntB_le (fun j => decide (kE P xs ys j = kE P xs ys i)) i
      have b5 : atN 53 (M8.1 105 0) x3 = cK (kE P xs ys) i (kE P xs ys i) := by
        rw [ex3, qo 105 (by omega) (by omega) (by omega) (by omega), atN_i (by omega) (by omega), show ((kE P xs ys i : Int) + 1).toNat = kE P xs ys i + 1 by omega, g5 _ k1]
      rw [b5]
      have hcle' : cK (kE P xs ys) i (kE P xs ys i) ≤ i := hcle
      refine ⟨by omega, fun M9 e9 => ⟨by omega, ih (i + 1) M9 (by omega) (f8.tr (by rw [e9]; exact Fx.setA ⟨by simp, rfl⟩)) ?_ ?_ (fun j hj => ?_) ?_ (fun κ hκ => ?_)⟩⟩
      · rw [e9, setA_ne (by omega), qo 0 (by omega) (by omega) (by omega) (by omega), g2]
      · rw [e9, setA_ne (by omega), qo 0 (by omega) (by omega) (by omega) (by omega), g2b]
      · rw [e9, setA_ne (by omega), setA_ne (by omega), setA_ne (by omega), setA_ne (by omega), q100, q101, q102, q103]
        by_cases e : j = i
        · subst e
          rw [putN_at (by omega) rfl, putN_at (by omega) rfl, putN_at (by omega) rfl, putN_at (by omega) rfl]
          exact ⟨rfl, rfl, rfl, rfl⟩
        · rw [putN_ne (by omega), putN_ne (by omega), putN_ne (by omega), putN_ne (by omega)]
          exact g3 j (by omega)
      · rw [e9, setA_at, putN_ne (by omega), qo 105 (by omega) (by omega) (by omega) (by omega), g4]
      · rw [e9, setA_at, qo 105 (by omega) (by omega) (by omega) (by omega)]
        by_cases e : kE P xs ys i = κ
        · rw [putN_at (by omega) (by omega), cK_y _ e, ← e]; rfl
        · rw [putN_ne (by omega), cK_n _ e]
          exact g5 κ hκ
    | zero =>
      intro i M4 hi g1 g2 g2b g3 g4 g5
      have ei : i = T := by omega
      subst ei
      refine s_1_23 ⟨fun _ => ?_, fun g => by rw [g2] at g; omega⟩
      have hB4 : ∀ M', Fx (fun t j => (t = 104 ∨ t = 105 ∨ t = 106 ∨ t = 107) ∧ j = 0) M4 M' → EdB M' i P xs ys ln := fun M' g => by
        refine ⟨by rw [(g 0 0 (by simp)).1, g2], ?_⟩
        rw [(g 100 0 (by simp)).1, (g 101 0 (by simp)).1, (g 102 0 (by simp)).1, (g 103 0 (by simp)).1]
        exact g3
      have hcle : ∀ κ, cK (kE P xs ys) i κ ≤ i := fun κ => cntB_le _ _
      have hskle := SK_le (kE P xs ys) i
      have loop2 : ∀ (s κ : Nat) (M' : Mm), κ + s = 52 → Fx (fun t j => (t = 104 ∨ t = 105 ∨ t = 106 ∨ t = 107) ∧ j = 0) M4 M' → (∀ κ', κ' ≤ κ → M'.1 105 0 κ' = SK (kE P xs ys) i κ') → (∀ κ', κ ≤ κ' → κ' < 52 → M'.1 105 0 (κ' + 1) = cK (kE P xs ys) i κ') → (∀ κ', κ' < κ → M'.1 106 0 κ' = SK (kE P xs ys) i κ') → L_1_126 k (κ : Int) M' Q := by
        intro s
        induction s with
        | succ s ih2 =>
          intro κ M5 hκ u1 u2 u3 u4
          have a1 : atN 53 (M5.1 105 0) (κ : Int) = SK (kE P xs ys) i κ := by rw [atN_i (by omega) (by omega), Int.toNat_natCast, u2 κ (Nat.le_refl κ)]
          have a2 : atN 53 (M5.1 105 0) ((κ : Int) + 1) = cK (kE P xs ys) i κ := by rw [atN_i (by omega) (by omega), show ((κ : Int) + 1).toNat = κ + 1 by omega, u3 κ (Nat.le_refl κ) (by omega)]
          have h1 := hskle κ
          have h2 := hcle κ
          have es : SK (kE P xs ys) i (κ + 1) = SK (kE P xs ys) i κ + cK (kE P xs ys) i κ := rfl
          refine s_1_126 ⟨fun g => by omega, fun _ => ⟨by omega, by omega, ?_⟩⟩
          rw [a1, a2]
          refine ⟨by omega, fun M6 e6 M7 e7 => ⟨by omega, ih2 (κ + 1) M7 (by omega) (u1.tr (by rw [e7, e6]; exact (Fx.setA ⟨by simp, rfl⟩).tr (Fx.setA ⟨by simp, rfl⟩))) (fun κ' h => ?_) (fun κ' h h' => ?_) (fun κ' h => ?_)⟩⟩
          all_goals (have a3 : atN 53 (M6.1 105 0) (κ : Int) = SK (kE P xs ys) i κ := by rw [e6, setA_at, atN_i (by omega) (by omega), Int.toNat_natCast, putN_ne (by omega), u2 κ (Nat.le_refl κ)])
          · rw [e7, setA_ne (by omega), e6, setA_at]
            by_cases e : κ' = κ + 1
            · subst e; rw [putN_at (by omega) (by omega), es]; rfl
            · rw [putN_ne (by omega)]; exact u2 κ' (by omega)
          · rw [e7, setA_ne (by omega), e6, setA_at, putN_ne (by omega)]
            exact u3 κ' (by omega) h'
          · rw [e7, setA_at, a3]
            by_cases e : κ' = κ
            · subst e; rw [putN_at (by omega) rfl]
            · rw [putN_ne (by omega), e6, setA_ne (by omega)]; exact u4 κ' (by omega)
        | zero =>
          intro κ M5 hκ u1 u2 u3 u4
          have eκ : κ = 52 := by omega
          subst eκ
          refine s_1_126 ⟨fun _ => ?_, fun g => by omega⟩
          have f45 : Fx TE M M5 := g1.tr (u1.up fun t j g => ⟨by rcases g.1 with h | h | h | h <;> simp [h], g.2⟩)
          have loop3 : ∀ (s j : Nat) (M' : Mm), j + s = i → Fx TE M M' → EdB M' i P xs ys ln → So M' i j (kE P xs ys) → L_1_185 k (j : Int) M' Q := by
            intro s
            induction s with
            | zero =>
              intro j M6 hj v1 v2 ⟨w1, w2, w3, w4, w5⟩
              have ej : j = i := by omega
              subst ej
              exact s_1_185 ⟨fun _ => hQ M6 v1 ⟨v2, w1, w2, w3, w4, w5⟩, fun g => by rw [v2.1] at g; omega⟩
            | succ s ih3 =>
              intro j M6 hj v1 v2 v3
              refine s_1_185 ⟨fun g => by rw [v2.1] at g; omega, fun _ => c3 hg v2 (by omega) v3 fun M7 f7 b7 s7 => ⟨by omega, ih3 (j + 1) M7 (by omega) (v1.tr f7) b7 s7⟩⟩
          exact loop3 i 0 M5 (by omega) f45 (hB4 M5 u1) ⟨u2, fun κ hκ => u4 κ hκ, fun j hj => absurd hj (Nat.not_lt_zero j), by rw [(u1 0 0 (by simp)).1, g2b]; rfl, fun j hj => absurd hj (Nat.not_lt_zero j)⟩
      exact loop2 52 0 M4 rfl Fx.rf (fun κ' h => by rw [show κ' = 0 by omega, g4]; rfl) (fun κ' _ h => g5 κ' h) (fun κ' h => absurd h (Nat.not_lt_zero κ'))
  exact loop1 T 0 M3 (by omega) f3 (by rw [q8, ups_ne (by omega), ups_at]) (by rw [q8, ups_at]) (fun j hj => absurd hj (Nat.not_lt_zero j)) (z3 0 (by omega)) (fun κ hκ => by rw [z3 _ (by omega)]; rfl)
/-! which edges lie along a stretch -/
def fsE (b : Nat → Bool) : Nat → Int
  | 0 => -1
  | n + 1 => if b n then (if 0 ≤ fsE b n then fsE b n else n) else fsE b n
def lsE (b : Nat → Bool) : Nat → Int
  | 0 => -1
  | n + 1 => if b n then n else lsE b n
def ovE (P : Int → Int → Bool) (xs ys : Nat → Int) (ln : Nat → Nat) (d l x y : Int) (e : Nat) : Bool := decide (eD P xs ys e = d ∧ 8 * eL P xs ys e = l ∧ x < 8 * eHi P xs ys ln e ∧ 8 * eLo P xs ys ln e < y)
def whV (what c lo hi : Int) : Int := if what = 0 then c else if what = 1 then lo else hi
theorem c9 {T : Nat} {P : Int → Int → Bool} {xs ys : Nat → Int} {ln : Nat → Nat} {d l x y w : Int} {M : Mm} {Q : Int → Mm → Prop} (hg : EdG P T xs ys ln) (hC : EdC M T P xs ys ln) (hd : Dir d) (hl : -1000 ≤ l ∧ l ≤ 1000) (hQ : Q (whV w (cntB (ovE P xs ys ln d l x y) T) (fsE (ovE P xs ys ln d l x y) T) (lsE (ovE P xs ys ln d l x y) T)) M) : E_9 d l x y w M Q := by
  have hT := hg.1
  obtain ⟨hB, c5, c6, c4, -, -⟩ := hC
  unfold Dir at hd
  have none : ∀ x7 x12 b, (∀ e, e < T → 8 * eL P xs ys e ≠ l) → 0 ≤ x12 → L_9_75 d l x y w b x7 0 0 (-1) (-1) x12 M Q := by
    intro x7 x12 b hno h12
    have e1 : ∀ n, n ≤ T → cntB (ovE P xs ys ln d l x y) n = 0 ∧ fsE (ovE P xs ys ln d l x y) n = -1 ∧ lsE (ovE P xs ys ln d l x y) n = -1 := by
      intro n
      induction n with
      | zero => intro _; exact ⟨rfl, rfl, rfl⟩
      | succ n ih =>
        intro hn
        obtain ⟨i1, i2, i3⟩ := ih (by omega)
        have hf : ovE P xs ys ln d l x y n = false := decide_eq_false (fun h => hno n (by omega) h.2.1)
        refine ⟨by rw [cntB_n hf, i1], ?_, ?_⟩
        · show (if ovE P xs ys ln d l x y n then _ else _) = _
          rw [hf, if_neg (by decide), i2]
        · show (if ovE P xs ys ln d l x y n then _ else _) = _
          rw [hf, if_neg (by decide), i3]
    obtain ⟨i1, i2, i3⟩ := e1 T (Nat.le_refl T)
    rw [i1, i2, i3] at hQ
    refine s_9_75 ⟨fun _ => ⟨fun hw b1 eb1 => ?_, fun hw => ?_⟩, fun g => by omega⟩
    · unfold whV at hQ
      rw [if_neg hw] at hQ
      rw [eb1]
      by_cases e : w = 1
      · rw [if_neg (fun h => h e)]; rw [if_pos e] at hQ; exact hQ
      · rw [if_pos e]; rw [if_neg e] at hQ; exact hQ
    · unfold whV at hQ
      rw [if_pos hw] at hQ
      exact hQ
  have at5 : ∀ z : Int, 0 ≤ atN 53 (M.1 105 0) z := by
    intro z
    by_cases h : 0 ≤ z ∧ z < 53
    · rw [atN_i h.1 h.2, c5 _ (by omega)]; omega
    · rw [atN_o h]; omega
  refine s_9_0 ⟨fun hneg => ⟨by omega, fun q eq => ⟨?_, fun x7 ex7 x12 ex12 => ?_⟩⟩, fun hpos => ⟨fun hbig => ⟨by omega, fun q eq => ⟨?_, fun x7 ex7 x12 ex12 => ?_⟩⟩, fun hle => ⟨by omega, fun r er b eb => ⟨by omega, fun q eq => ⟨?_, fun x7 ex7 => ⟨fun hb x12 ex12 => ?_, fun hb x8 ex8 x12 ex12 => ?_⟩⟩⟩⟩⟩⟩
  · have h3 : Int.tdiv (-l) 8 = -(Int.tdiv l 8) := Int.neg_tdiv l 8
    rw [tdiv_p (by omega)] at h3
    omega
  · exact none _ _ _ (fun e he h => by have := (hg.2 e he).2.1; omega) (by rw [ex12]; exact at5 _)
  · rw [tdiv_p hpos] at eq; omega
  · exact none _ _ _ (fun e he h => by have := (hg.2 e he).2.1; omega) (by rw [ex12]; exact at5 _)
  · rw [tdiv_p hpos] at eq; omega
  · rw [tmod_p hpos] at er
    have hr : r ≠ 0 := fun h => by rw [eb, if_neg (fun g => g h)] at hb; cases hb
    exact none _ _ _ (fun e he h => by omega) (by rw [ex12]; exact at5 _)
  · rw [tmod_p hpos] at er
    rw [tdiv_p hpos] at eq
    have hr : r = 0 := Classical.byContradiction fun h => hb (by rw [eb, if_pos h])
    obtain ⟨κ, hκ⟩ : ∃ κ : Nat, x7 = κ := ⟨x7.toNat, by omega⟩
    have hκ52 : κ < 52 := by omega
    rw [hκ, atN_i (by omega) (by omega), Int.toNat_natCast, c6 κ hκ52] at ex8
    rw [hκ, atN_i (by omega) (by omega), Int.toNat_natCast, c5 κ (by omega)] at ex12
    rw [hκ, ex8, ex12]
    have hkey : ∀ e, e < T → (kE P xs ys e = κ ↔ eD P xs ys e = d ∧ 8 * eL P xs ys e = l) := by
      intro e he
      have h1 := (hg.k he).2
      obtain ⟨h2, h3, -⟩ := hg.2 e he
      unfold Dir at h2
      constructor
      · intro h; rw [h] at h1; omega
      · rintro ⟨h4, h5⟩; omega
    have hSK := SK_le (kE P xs ys) T (κ + 1)
    have hSK2 : SK (kE P xs ys) T (κ + 1) = SK (kE P xs ys) T κ + cK (kE P xs ys) T κ := rfl
    have loop : ∀ (s i : Nat), i + s = T → L_9_75 d l x y w b (κ : Int) ((SK (kE P xs ys) T κ + cK (kE P xs ys) T κ : Nat) : Int) (cntB (ovE P xs ys ln d l x y) i : Int) (fsE (ovE P xs ys ln d l x y) i) (lsE (ovE P xs ys ln d l x y) i) ((SK (kE P xs ys) T κ + cK (kE P xs ys) i κ : Nat) : Int) M Q := by
      intro s
      induction s with
      | zero =>
        intro i hi
        have ei : i = T := by omega
        subst ei
        refine s_9_75 ⟨fun _ => ⟨fun hw b1 eb1 => ?_, fun hw => ?_⟩, fun g => by omega⟩
        · unfold whV at hQ
          rw [if_neg hw] at hQ
          rw [eb1]
          by_cases e : w = 1
          · rw [if_neg (fun h => h e)]; rw [if_pos e] at hQ; exact hQ
          · rw [if_pos e]; rw [if_neg e] at hQ; exact hQ
        · unfold whV at hQ
          rw [if_pos hw] at hQ
          exact hQ
      | succ s ih =>
        intro i hi
        have hiT : i < T := by omega
        have ih := ih (i + 1) (by omega)
        by_cases hk : kE P xs ys i = κ
        · have hlt := cK_lt (kE P xs ys) hiT hk
          have h4 := c4 i hiT
          rw [hk] at h4
          obtain ⟨a1, a2, a3, a4⟩ := hB.at hg hiT
          obtain ⟨r1, r2, r3, r4⟩ := hg.2 i hiT
          obtain ⟨k1, k2⟩ := (hkey i hiT).mp hk
          have hcn := cntB_le (ovE P xs ys ln d l x y) i
          refine s_9_75 ⟨fun g => by omega, fun _ x13 e13 => ?_⟩
          have e13' : x13 = i := by rw [e13, atN_i (by omega) (by omega), Int.toNat_natCast]; exact h4
          rw [e13', a3, a4]
          refine ⟨⟨by unfold inR; omega, by unfold inR; omega⟩, fun ho => ⟨by omega, ?_⟩, fun ho => ⟨by omega, fun b1 eb1 => ⟨by omega, ?_⟩⟩⟩
          · have hf : ovE P xs ys ln d l x y i = false := by
              refine decide_eq_false fun h => ?_
              unfold ovV at ho
              rw [a3, a4, if_pos h.2.2.1, if_pos h.2.2.2] at ho
              cases ho
            rw [cntB_n hf, show fsE (ovE P xs ys ln d l x y) (i + 1) = fsE (ovE P xs ys ln d l x y) i from by show (if ovE P xs ys ln d l x y i then _ else _) = _; rw [hf, if_neg (by decide)], show lsE (ovE P xs ys ln d l x y) (i + 1) = lsE (ovE P xs ys ln d l x y) i from by show (if ovE P xs ys ln d l x y i then _ else _) = _; rw [hf, if_neg (by decide)], cK_y _ hk] at ih
            exact ih
          · have hf : ovE P xs ys ln d l x y i = true := by
              refine decide_eq_true ⟨k1, k2, ?_⟩
              unfold ovV at ho
              rw [a3, a4] at ho
              split at ho
              · next h1 =>
                split at ho
                · next h2 => exact ⟨h1, h2⟩
                · exact absurd rfl ho
              · exact absurd rfl ho
            rw [cntB_y hf, show fsE (ovE P xs ys ln d l x y) (i + 1) = b1 from by show (if ovE P xs ys ln d l x y i then _ else _) = _; rw [hf, if_pos rfl, eb1], show lsE (ovE P xs ys ln d l x y) (i + 1) = (i : Int) from by show (if ovE P xs ys ln d l x y i then _ else _) = _; rw [hf, if_pos rfl], cK_y _ hk] at ih
            exact ih
        · have hf : ovE P xs ys ln d l x y i = false := decide_eq_false fun h => hk ((hkey i hiT).mpr ⟨h.1, h.2.1⟩)
          rw [cntB_n hf, show fsE (ovE P xs ys ln d l x y) (i + 1) = fsE (ovE P xs ys ln d l x y) i from by show (if ovE P xs ys ln d l x y i then _ else _) = _; rw [hf, if_neg (by decide)], show lsE (ovE P xs ys ln d l x y) (i + 1) = lsE (ovE P xs ys ln d l x y) i from by show (if ovE P xs ys ln d l x y i then _ else _) = _; rw [hf, if_neg (by decide)], cK_n _ hk] at ih
          exact ih
    exact loop T 0 (by omega)

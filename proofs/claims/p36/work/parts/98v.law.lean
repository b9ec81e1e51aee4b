/-! the law's own walk -/
theorem ius_nn (a : Int) : 0 ≤ ius a 3 := by
  unfold ius
  have e : ((Int32.ofInt 3).toUInt32 &&& Int32.toUInt32 31) = 3 := by decide
  rw [e]
  generalize (Int32.ofInt a).toUInt32 = u
  show 0 ≤ (u >>> 3).toBitVec.toInt
  have h : (u >>> 3).toBitVec.toNat = u.toNat >>> 3 := UInt32.toNat_shiftRight u 3
  have h2 : u.toNat < 4294967296 := u.toNat_lt
  rw [Nat.shiftRight_eq_div_pow] at h
  rw [BitVec.toInt_eq_toNat_of_lt (by omega)]
  omega
theorem some_b {n : Nat} {xs : Nat → Int} {k m : Int} (hm : 0 < m) : 0 ≤ someV n xs k m ∧ someV n xs k m < m := by
  unfold someV
  rw [tmod_p (ius_nn _)]
  exact ⟨Int.emod_nonneg _ (by omega), Int.emod_lt_of_pos _ hm⟩
theorem img_0 : ∀ (n : Nat) (x y : Int), imgA (cel z0) n x y = false
  | 0, x, y => cel_0 x y
  | n + 1, x, y => by
    unfold imgA
    split
    · unfold mirA rotA
      exact img_0 n _ _
    · unfold rotA
      exact img_0 n _ _
theorem sym_0 : symV (cel z0) = 8 := by
  unfold symV
  rw [cntB_cg (b' := fun _ => true) fun n _ => shB_t ⟨0, 0, fun x y => by rw [img_0, cel_0]⟩]
  rfl
theorem LI_0 : LI M0 z0 := ⟨rfl, fun y _ => ⟨Int.le_refl 0, by show (0 : Int) < 4096; omega⟩, ⟨⟨fun y _ => rfl, fun y _ => rfl⟩, rfl, fun q _ _ => rfl⟩, fun g => absurd rfl g, rfl, 0, 0, rfl, by omega, rfl, by omega⟩
section LW
variable {n : Nat} {xs : Nat → Int} {f : Nat → Int} {Q : Int → Mm → Prop}
theorem a911F {M : Mm} (h : LI M f) (hQ : ∀ M1, LI M1 f → RF f → Q (vE (lay f 1) : Int) M1) : E_911 M Q := s_911_0 (a502 h fun M1 c hF => by rw [hF.2.2.2.2.2.1.1.1]; exact hQ M1 c (rf_of hF))
/-- the region's commands -/
theorem w1225 {M : Mm} {Q : Mm → Prop} (h : LI M f) (hQ : ∀ M1 f1, LI M1 f1 → Q M1) : E_1225 n xs 0 M Q := by
  have b0 := some_b (n := n) (xs := xs) (k := 0) (m := 6) (by omega)
  refine s_1225_0 ⟨by omega, by omega, fun x3 e3 => ?_⟩
  have key : ∀ (t i : Nat) (M : Mm) (f : Nat → Int), LI M f → (i : Int) + t = x3 → L_1225_13 n xs 0 x3 (i : Int) M Q := by
    intro t
    induction t with
    | zero =>
      intro i M f h e
      exact s_1225_13 ⟨fun _ => hQ M f h, fun g => by omega⟩
    | succ t ih =>
      intro i M f h e
      have b1 := some_b (n := n) (xs := xs) (k := (0 + 1) + (5 * (i : Int))) (m := 12) (by omega)
      have b2 := some_b (n := n) (xs := xs) (k := (0 + 2) + (5 * (i : Int))) (m := 12) (by omega)
      have b5 := some_b (n := n) (xs := xs) (k := (0 + 5) + (5 * (i : Int))) (m := 8) (by omega)
      refine s_1225_13 ⟨fun g => by omega, fun _ => ⟨by omega, by omega, fun x5 e5 => ⟨by omega, by omega, fun x6 e6 => ?_⟩⟩⟩
      have b3 := some_b (n := n) (xs := xs) (k := (0 + 3) + (5 * (i : Int))) (m := 12 - x5) (by omega)
      have b4 := some_b (n := n) (xs := xs) (k := (0 + 4) + (5 * (i : Int))) (m := 12 - x6) (by omega)
      refine ⟨by omega, by omega, by omega, fun x7 e7 => ⟨by omega, by omega, by omega, fun x8 e8 => ⟨by omega, by omega, fun x9 e9 b eb => ?_⟩⟩⟩
      have hb : 0 ≤ b ∧ b ≤ 2 := by
        rw [eb]
        split
        · omega
        · split
          · split <;> omega
          · omega
      refine a901 h hb (by omega) (by omega) (by omega) (by omega) fun v M1 f1 h1 => ⟨by omega, ?_⟩
      have := ih (i + 1) M1 f1 h1 (by omega)
      rwa [show ((i + 1 : Nat) : Int) = (i : Int) + 1 by omega] at this
  exact key x3.toNat 0 M f h (by omega)
section LP
variable {p : Nat}
theorem cv_0 (hv : Vok (lay f (2 * p + 1))) {k : Nat} (hk : k < vN (lay f (2 * p + 1))) : cvV f p k 0 = (cmN (lay f (2 * p + 1)) k : Int) := by
  have hm := hv.cm hk
  have e : cvV f p k 0 = (vS (lay f (2 * p + 1)) (k + 1) : Int) - vS (lay f (2 * p + 1)) k := by unfold cvV; rw [if_pos rfl]
  rw [e]
  omega
theorem cv_1 {k : Nat} : cvV f p k 1 = hol (lay f (2 * p + 1)) (vX (lay f (2 * p + 1)) (vS (lay f (2 * p + 1)) k)) (vY (lay f (2 * p + 1)) (vS (lay f (2 * p + 1)) k)) := by
  unfold cvV
  rw [if_neg (by omega), if_pos rfl]
theorem cv_3 (hv : Vok (lay f (2 * p + 1))) {k : Nat} (hk : k < vN (lay f (2 * p + 1))) : cvV f p k 3 = waN (lay f (2 * p + 1)) k (cmN (lay f (2 * p + 1)) k) := by
  rw [waN_all hv hk]
  unfold cvV
  rw [if_neg (by omega), if_neg (by omega), if_neg (by omega)]
theorem hol_01 (P : Int → Int → Bool) (x y : Int) : hol P x y = 0 ∨ hol P x y = 1 := by
  unfold hol
  split
  · exact Or.inl rfl
  · exact Or.inr rfl
theorem wlk1 (hv : Vok (lay f (2 * p + 1))) {k s : Nat} (hk : k < vN (lay f (2 * p + 1))) (hs : s < cmN (lay f (2 * p + 1)) k) : (if 0 ≤ pX (lay f (2 * p + 1)) k (s + 1) - pX (lay f (2 * p + 1)) k s then pX (lay f (2 * p + 1)) k (s + 1) - pX (lay f (2 * p + 1)) k s else -(pX (lay f (2 * p + 1)) k (s + 1) - pX (lay f (2 * p + 1)) k s)) + (if 0 ≤ pY (lay f (2 * p + 1)) k (s + 1) - pY (lay f (2 * p + 1)) k s then pY (lay f (2 * p + 1)) k (s + 1) - pY (lay f (2 * p + 1)) k s else -(pY (lay f (2 * p + 1)) k (s + 1) - pY (lay f (2 * p + 1)) k s)) = (vL (lay f (2 * p + 1)) (ixc (vS (lay f (2 * p + 1)) k) (cmN (lay f (2 * p + 1)) k) s) : Int) := (ctl hv).wlk hk (hv.cm hk).2.1 hs
theorem sgn1 (hv : Vok (lay f (2 * p + 1))) {k s : Nat} (hk : k < vN (lay f (2 * p + 1))) (hs : s < cmN (lay f (2 * p + 1)) k) : (if ((pX (lay f (2 * p + 1)) k (s + 1) - pX (lay f (2 * p + 1)) k s) * (pY (lay f (2 * p + 1)) k (s + 2) - pY (lay f (2 * p + 1)) k (s + 1))) - ((pY (lay f (2 * p + 1)) k (s + 1) - pY (lay f (2 * p + 1)) k s) * (pX (lay f (2 * p + 1)) k (s + 2) - pX (lay f (2 * p + 1)) k (s + 1))) ≤ 0 then (-1) else 1) = tnV (lay f (2 * p + 1)) (pX (lay f (2 * p + 1)) k (s + 1)) (pY (lay f (2 * p + 1)) k (s + 1)) := (ctl hv).sgn hk (hv.cm hk).2.1 (hv.cm hk).1 hs
theorem alt1 (hv : Vok (lay f (2 * p + 1))) {k s : Nat} (hk : k < vN (lay f (2 * p + 1))) (hs : s < cmN (lay f (2 * p + 1)) k) : (pX (lay f (2 * p + 1)) k s = pX (lay f (2 * p + 1)) k (s + 1) ∧ pY (lay f (2 * p + 1)) k s ≠ pY (lay f (2 * p + 1)) k (s + 1)) ∨ (pX (lay f (2 * p + 1)) k s ≠ pX (lay f (2 * p + 1)) k (s + 1) ∧ pY (lay f (2 * p + 1)) k s = pY (lay f (2 * p + 1)) k (s + 1)) := (ctl hv).alt hk (hv.cm hk).2.1 hs
/-- a vertex, around its contour -/
theorem aXY {M : Mm} {k i : Nat} {z w : Int} (h : LI M f) (hv : Vok (lay f (2 * p + 1))) (hp : p < nP f) (hk : k < vN (lay f (2 * p + 1))) (hi : i < 2 * cmN (lay f (2 * p + 1)) k) (ez : z = if i < cmN (lay f (2 * p + 1)) k then (i : Int) else (i : Int) - cmN (lay f (2 * p + 1)) k) (hw : w = 0 ∨ w = 1) (hQ : ∀ M1, LI M1 f → Q (if w ≠ 0 then pY (lay f (2 * p + 1)) k i else pX (lay f (2 * p + 1)) k i) M1) : E_924 (p : Int) (k : Int) z w M Q := by
  have hm := hv.cm hk
  have e : z = ((if i < cmN (lay f (2 * p + 1)) k then i else i - cmN (lay f (2 * p + 1)) k : Nat) : Int) := by
    rw [ez]
    by_cases g : i < cmN (lay f (2 * p + 1)) k
    · rw [if_pos g, if_pos g]
    · rw [if_neg g, if_neg g]; omega
  rw [e]
  refine a924 h hp hk ?_ hw hQ
  have lt : (if i < cmN (lay f (2 * p + 1)) k then i else i - cmN (lay f (2 * p + 1)) k) < cmN (lay f (2 * p + 1)) k := by split <;> omega
  show vS (lay f (2 * p + 1)) k + _ < vS (lay f (2 * p + 1)) (k + 1)
  omega
/-- along a contour -/
theorem w743 (hv : Vok (lay f (2 * p + 1))) (hp : p < nP f) {k : Nat} (hk : k < vN (lay f (2 * p + 1))) {x2 x3 x4 x5 x6 x7 x8 : Int}
    (hQ : ∀ M1, LI M1 f → L_1222_711 n xs x2 x3 x4 x5 x6 x7 x8 (p : Int) (crT (lay f (2 * p + 1)) (k + 1)) (cum (vL (lay f (2 * p + 1))) (vS (lay f (2 * p + 1)) (k + 1))) (vS (lay f (2 * p + 1)) (k + 1) : Int) (vH (lay f (2 * p + 1)) (k + 1)) ((k + 1 : Nat) : Int) M1 Q) : ∀ (t s : Nat) (M : Mm), LI M f → s + t = cmN (lay f (2 * p + 1)) k →
    L_1222_743 n xs x2 x3 x4 x5 x6 x7 x8 (p : Int) (crT (lay f (2 * p + 1)) k + crN (lay f (2 * p + 1)) k s) (cum (vL (lay f (2 * p + 1))) (vS (lay f (2 * p + 1)) k)) (vS (lay f (2 * p + 1)) k : Int) (vH (lay f (2 * p + 1)) k) (k : Int) (cmN (lay f (2 * p + 1)) k : Int) (tuN (lay f (2 * p + 1)) k s) (waN (lay f (2 * p + 1)) k s) (s : Int) M Q := by
  have hm := hv.cm hk
  have h78 := hv.le.1
  intro t
  induction t with
  | zero =>
    intro s M h hs
    have es : s = cmN (lay f (2 * p + 1)) k := by omega
    subst es
    have hb1 := cum_b hv (m := vS (lay f (2 * p + 1)) k) (by omega)
    have hb2 := waN_b hv hk (Nat.le_refl (cmN (lay f (2 * p + 1)) k))
    have hb3 := vH_b (lay f (2 * p + 1)) k
    have h01 := hol_01 (lay f (2 * p + 1)) (vX (lay f (2 * p + 1)) (vS (lay f (2 * p + 1)) k)) (vY (lay f (2 * p + 1)) (vS (lay f (2 * p + 1)) k))
    have htu := tuN_all hv hk
    refine s_1222_743 ⟨fun _ => a923 h hp hk ⟨by omega, by omega⟩ fun M1 h1 => ?_, fun g => by omega⟩
    rw [cv_1]
    intro b eb
    have ebt : tuN (lay f (2 * p + 1)) k (cmN (lay f (2 * p + 1)) k) = b := by
      rw [htu, eb]
      split <;> omega
    refine ⟨fun g => absurd ebt g, fun _ => a923 h1 hp hk ⟨by omega, by omega⟩ fun M2 h2 => ?_⟩
    rw [cv_3 hv hk]
    refine ⟨fun _ => ⟨by omega, fun x12 e12 => a923 h2 hp hk ⟨by omega, by omega⟩ fun M3 h3 => ?_⟩, fun g => absurd rfl g⟩
    rw [cv_1]
    refine ⟨by omega, fun x13 e13 => ⟨by omega, fun x11 e11 => ⟨by omega, ?_⟩⟩⟩
    have := hQ M3 h3
    have q1 : crT (lay f (2 * p + 1)) (k + 1) = crT (lay f (2 * p + 1)) k + crN (lay f (2 * p + 1)) k (cmN (lay f (2 * p + 1)) k) := rfl
    have q2 : cum (vL (lay f (2 * p + 1))) (vS (lay f (2 * p + 1)) (k + 1)) = x11 := by rw [e11, waN_all hv hk]; omega
    have q3 : (vS (lay f (2 * p + 1)) (k + 1) : Int) = x12 := by omega
    have q4 : vH (lay f (2 * p + 1)) (k + 1) = x13 := by rw [e13]; rfl
    rw [q1, q2, q3, q4, show ((k + 1 : Nat) : Int) = (k : Int) + 1 by omega] at this
    exact this
  | succ t ih =>
    intro s M h hs
    have hs' : s < cmN (lay f (2 * p + 1)) k := by omega
    have hb1 := crT_b hv k (by omega)
    have hb2 := crN_b hv hk (s := s) (by omega)
    have hb3 := waN_b hv hk (s := s) (by omega)
    have hb4 := tuN_b (f := f) (p := p) k s
    have c1 := cr_1 hv hk hs'
    have p0 := p_bd hv hk (i := s) (by omega)
    have p1 := p_bd hv hk (i := s + 1) (by omega)
    have p2 := p_bd hv hk (i := s + 2) (by omega)
    refine s_1222_743 ⟨fun g => by omega, fun _ => ⟨by omega, fun d ed => ⟨by omega, fun d1 ed1 => ?_⟩⟩⟩
    rw [tmod_p (by omega)] at ed ed1
    have zd : d = if s + 1 < cmN (lay f (2 * p + 1)) k then ((s + 1 : Nat) : Int) else ((s + 1 : Nat) : Int) - cmN (lay f (2 * p + 1)) k := by
      rw [ed]
      split
      · rw [Int.emod_eq_of_lt (by omega) (by omega)]; omega
      · rw [show (s : Int) + 1 = cmN (lay f (2 * p + 1)) k by omega, Int.emod_self]; omega
    have zd1 : d1 = if s + 2 < cmN (lay f (2 * p + 1)) k then ((s + 2 : Nat) : Int) else ((s + 2 : Nat) : Int) - cmN (lay f (2 * p + 1)) k := by
      rw [ed1]
      split
      · rw [Int.emod_eq_of_lt (by omega) (by omega)]; omega
      · rw [show (s : Int) + 2 = ((s : Int) + 2 - cmN (lay f (2 * p + 1)) k) + cmN (lay f (2 * p + 1)) k by omega, Int.add_emod_right, Int.emod_eq_of_lt (by omega) (by omega)]; omega
    have zs : (s : Int) = if s < cmN (lay f (2 * p + 1)) k then (s : Int) else (s : Int) - cmN (lay f (2 * p + 1)) k := (if_pos hs').symm
    refine aXY h hv hp hk (i := s) (by omega) zs (Or.inl rfl) fun M1 h1 => ?_
    refine aXY h1 hv hp hk (i := s) (by omega) zs (Or.inr rfl) fun M2 h2 => ?_
    refine aXY h2 hv hp hk (i := s + 1) (by omega) zd (Or.inl rfl) fun M3 h3 => ?_
    refine aXY h3 hv hp hk (i := s + 1) (by omega) zd (Or.inr rfl) fun M4 h4 => ?_
    refine aXY h4 hv hp hk (i := s + 2) (by omega) zd1 (Or.inl rfl) fun M5 h5 => ?_
    refine aXY h5 hv hp hk (i := s + 2) (by omega) zd1 (Or.inr rfl) fun M6 h6 => ?_
    have iX : ∀ a b : Int, (if (0 : Int) ≠ 0 then a else b) = b := fun a b => if_neg (fun g => g rfl)
    have iY : ∀ a b : Int, (if (1 : Int) ≠ 0 then a else b) = a := fun a b => if_pos (by omega)
    rw [iX, iX, iX, iY, iY, iY]
    have hw := wlk1 hv hk hs'
    have hg := sgn1 hv hk hs'
    have ha := alt1 hv hk hs'
    have ht := tnV_c (lay f (2 * p + 1)) (pX (lay f (2 * p + 1)) k (s + 1)) (pY (lay f (2 * p + 1)) k (s + 1))
    have ih := ih (s + 1) M6 h6 (by omega)
    have r1 : crN (lay f (2 * p + 1)) k (s + 1) = crN (lay f (2 * p + 1)) k s + (pX (lay f (2 * p + 1)) k s * pY (lay f (2 * p + 1)) k (s + 1) - pX (lay f (2 * p + 1)) k (s + 1) * pY (lay f (2 * p + 1)) k s) := rfl
    have r2 : tuN (lay f (2 * p + 1)) k (s + 1) = tuN (lay f (2 * p + 1)) k s + tnV (lay f (2 * p + 1)) (pX (lay f (2 * p + 1)) k (s + 1)) (pY (lay f (2 * p + 1)) k (s + 1)) := rfl
    have r3 : waN (lay f (2 * p + 1)) k (s + 1) = waN (lay f (2 * p + 1)) k s + (vL (lay f (2 * p + 1)) (ixc (vS (lay f (2 * p + 1)) k) (cmN (lay f (2 * p + 1)) k) s) : Int) := rfl
    rw [r1, r2, r3, show ((s + 1 : Nat) : Int) = (s : Int) + 1 by omega] at ih
    have m1 := mul_bd (a := pX (lay f (2 * p + 1)) k (s + 1) - pX (lay f (2 * p + 1)) k s) (b := pY (lay f (2 * p + 1)) k (s + 2) - pY (lay f (2 * p + 1)) k (s + 1)) (by omega) (by omega)
    have m2 := mul_bd (a := pY (lay f (2 * p + 1)) k (s + 1) - pY (lay f (2 * p + 1)) k s) (b := pX (lay f (2 * p + 1)) k (s + 2) - pX (lay f (2 * p + 1)) k (s + 1)) (by omega) (by omega)
    intro b eb b1 eb1
    have hne : b ≠ b1 := by
      rw [eb, eb1]
      rcases ha with ⟨g1, g2⟩ | ⟨g1, g2⟩
      · rw [if_neg (fun g => g g1), if_pos g2]; decide
      · rw [if_pos g1, if_neg (fun g => g g2)]; decide
    refine ⟨fun _ => ⟨⟨by omega, by omega, by omega, by omega⟩, fun x10 e10 => ?_⟩, fun g => absurd g hne⟩
    rw [hw]
    refine ⟨⟨by omega, by omega, by omega, by omega, by omega, by omega⟩, fun x17 e17 => ?_⟩
    refine ⟨⟨by omega, by omega, by omega, by omega, by omega, by omega, by omega⟩, fun b2 eb2 => ?_⟩
    rw [hg] at eb2
    refine ⟨by omega, fun x16 e16 => ⟨by omega, ?_⟩⟩
    rw [e10, e16, e17, eb2, Int.add_assoc]
    exact ih
theorem pv_0 : pvV f p 0 = (lcnt f (2 * p + 1) : Int) := by unfold pvV; rw [if_pos rfl]
theorem pv_1 : pvV f p 1 = (nc f p : Int) := by unfold pvV; rw [if_neg (by omega), if_pos rfl]
theorem pv_2 : pvV f p 2 = (vN (lay f (2 * p + 1)) : Int) := by unfold pvV; rw [if_neg (by omega), if_neg (by omega), if_pos rfl]
theorem pv_3 : pvV f p 3 = vH (lay f (2 * p + 1)) (vN (lay f (2 * p + 1))) := by unfold pvV; rw [if_neg (by omega), if_neg (by omega), if_neg (by omega), if_pos rfl]
theorem pv_4 : pvV f p 4 = (vE (lay f (2 * p + 1)) : Int) := by unfold pvV; rw [if_neg (by omega), if_neg (by omega), if_neg (by omega), if_neg (by omega), if_pos rfl]
theorem pv_5 : pvV f p 5 = smV f p 5 := by unfold pvV; rw [if_neg (by omega), if_neg (by omega), if_neg (by omega), if_neg (by omega), if_neg (by omega)]
theorem pv_6 : pvV f p 6 = cum (vL (lay f (2 * p + 1))) (vE (lay f (2 * p + 1))) := by
  unfold pvV
  rw [if_neg (by omega), if_neg (by omega), if_neg (by omega), if_neg (by omega), if_neg (by omega)]
  unfold smV
  rw [if_pos rfl]
/-- a phase's contours -/
theorem w711 (hv : Vok (lay f (2 * p + 1))) (hp : p < nP f) (h12 : nP f ≤ 12) {x2 x3 x4 x5 x6 x7 x8 : Int}
    (hQ : ∀ M1, LI M1 f → L_1222_625 n xs x2 x3 x4 x5 x6 x7 x8 ((p + 1 : Nat) : Int) M1 Q) : ∀ (t k : Nat) (M : Mm), LI M f → k + t = vN (lay f (2 * p + 1)) →
    L_1222_711 n xs x2 x3 x4 x5 x6 x7 x8 (p : Int) (crT (lay f (2 * p + 1)) k) (cum (vL (lay f (2 * p + 1))) (vS (lay f (2 * p + 1)) k)) (vS (lay f (2 * p + 1)) k : Int) (vH (lay f (2 * p + 1)) k) (k : Int) M Q := by
  have h78 := hv.le
  intro t
  induction t with
  | zero =>
    intro k M h hk
    have ek : k = vN (lay f (2 * p + 1)) := by omega
    subst ek
    have l1 := lcnt_le f (2 * p + 1)
    have a1 := crT_all hv
    have a2 := left_all hv
    have a3 := comp_all hv
    have a4 : (cntB (bS f p 5) (vE (lay f (2 * p + 1)))) ≤ vE (lay f (2 * p + 1)) := cntB_le _ _
    have a5 : smV f p 5 = (cntB (bS f p 5) (vE (lay f (2 * p + 1))) : Int) := by unfold smV; rw [if_neg (by omega)]
    have a6 := vH_b (lay f (2 * p + 1)) (vN (lay f (2 * p + 1)))
    have a7 : vS (lay f (2 * p + 1)) (vN (lay f (2 * p + 1))) = vE (lay f (2 * p + 1)) := rfl
    rw [a7]
    refine s_1222_711 (a922 h hp ⟨by omega, by omega⟩ fun M1 h1 _ => ?_)
    rw [pv_2]
    refine ⟨fun _ => a922 h1 hp ⟨by omega, by omega⟩ fun M2 h2 _ => ?_, fun g => by omega⟩
    rw [pv_0]
    refine ⟨by omega, fun g => absurd a1 g, fun _ => a922 h2 hp ⟨by omega, by omega⟩ fun M3 h3 _ => ?_⟩
    rw [pv_6]
    refine ⟨fun g => absurd rfl g, fun _ => a922 h3 hp ⟨by omega, by omega⟩ fun M4 h4 _ => ?_⟩
    rw [pv_4]
    refine ⟨fun g => absurd rfl g, fun _ => a922 h4 hp ⟨by omega, by omega⟩ fun M5 h5 _ => ?_⟩
    rw [pv_3]
    refine ⟨fun g => absurd rfl g, fun _ => a922 h5 hp ⟨by omega, by omega⟩ fun M6 h6 _ => ?_⟩
    rw [pv_5]
    refine ⟨by omega, a922 h6 hp ⟨by omega, by omega⟩ fun M7 h7 _ => ?_⟩
    rw [pv_2]
    refine ⟨by omega, fun g => absurd a2 g, fun _ => a922 h7 hp ⟨by omega, by omega⟩ fun M8 h8 _ => ?_⟩
    rw [pv_2]
    refine ⟨by omega, a922 h8 hp ⟨by omega, by omega⟩ fun M9 h9 _ => ?_⟩
    rw [pv_1]
    refine ⟨fun _ => ⟨by omega, ?_⟩, fun g => absurd a3 g⟩
    have := hQ M9 h9
    rwa [show ((p + 1 : Nat) : Int) = (p : Int) + 1 by omega] at this
  | succ t ih =>
    intro k M h hk
    have hk' : k < vN (lay f (2 * p + 1)) := by omega
    refine s_1222_711 (a922 h hp ⟨by omega, by omega⟩ fun M1 h1 _ => ?_)
    rw [pv_2]
    refine ⟨fun g => by omega, fun _ => a923 h1 hp hk' ⟨by omega, by omega⟩ fun M2 h2 => ?_⟩
    rw [cv_0 hv hk']
    have key := w743 (Q := Q) (n := n) (xs := xs) hv hp hk' (x2 := x2) (x3 := x3) (x4 := x4) (x5 := x5) (x6 := x6) (x7 := x7) (x8 := x8) (fun M3 h3 => ih (k + 1) M3 h3 (by omega)) (cmN (lay f (2 * p + 1)) k) 0 M2 h2 (by omega)
    have z1 : crN (lay f (2 * p + 1)) k 0 = 0 := rfl
    have z2 : tuN (lay f (2 * p + 1)) k 0 = 0 := rfl
    have z3 : waN (lay f (2 * p + 1)) k 0 = 0 := rfl
    rw [z1, z2, z3, Int.add_zero] at key
    exact key
end LP
/-- all phases -/
theorem w625 (hF : RF f) (hQ : ∀ M1, LI M1 f → Q 1 M1) {x2 x3 x4 x5 x6 x7 : Int} : ∀ (t p : Nat) (M : Mm), LI M f → p + t = nP f → L_1222_625 n xs x2 x3 x4 x5 x6 x7 (volH f 24 + volL f p) (p : Int) M Q := by
  have h12 := hF.n
  have hI := hF.1
  intro t
  induction t with
  | zero =>
    intro p M h hp
    have ep : p = nP f := by omega
    subst ep
    refine s_1222_625 (a921 h fun M1 h1 _ => ⟨fun _ => a920 h1 fun M2 h2 => ?_, fun g => by omega⟩)
    intro b eb
    have e1 := volH_N hI (24 - nP f)
    rw [show nP f + (24 - nP f) = 24 by omega] at e1
    have e2 := vol_s f (nP f)
    rw [if_neg (fun g => g (by rw [e2, e1]))] at eb
    rw [eb]
    exact ⟨Or.inr rfl, hQ M2 h2⟩
  | succ t ih =>
    intro p M h hp
    have hp' : p < nP f := by omega
    have hv := hF.2.2 p hp'
    have b1 := vol_b f 24
    have b2 := vol_b f p
    have l1 := lcnt_le f (2 * p + 1)
    have l2 := lc_le f (2 * p)
    have l3 := lc_le f (2 * p + 1)
    have l4 := lcnt_hcnt f p
    have l5 := lcnt_hcnt f (p + 1)
    rw [show 2 * (p + 1) = 2 * p + 1 + 1 by omega] at l5
    have l6 := hI.1 p hp'
    have hh1 := hcnt_le f p
    have hh2 := hcnt_le f (p + 1)
    refine s_1222_625 (a921 h fun M1 h1 _ => ⟨fun g => by omega, fun _ => a922 h1 hp' ⟨by omega, by omega⟩ fun M2 h2 _ => ?_⟩)
    rw [pv_0]
    refine ⟨by omega, fun x8 e8 => a922 h2 hp' ⟨by omega, by omega⟩ fun M3 h3 _ => ?_⟩
    rw [pv_0]
    refine a919 h3 (by omega) fun M4 h4 => ⟨by omega, fun g => by omega, fun _ => a922 h4 hp' ⟨by omega, by omega⟩ fun M5 h5 _ => ?_⟩
    rw [pv_0]
    refine ⟨by omega, ?_⟩
    rw [show (p : Int) + 1 = ((p + 1 : Nat) : Int) by omega]
    refine a919 h5 (by omega) fun M6 h6 => ⟨by omega, fun g => by omega, fun _ => a922 h6 hp' ⟨by omega, by omega⟩ fun M7 h7 _ => ?_⟩
    rw [pv_0]
    refine ⟨fun _ => ?_, fun g => by omega⟩
    have e : x8 = volH f 24 + volL f (p + 1) := by
      rw [e8]
      show _ = volH f 24 + (volL f p + (lcnt f (2 * p + 1) : Int))
      omega
    rw [e]
    have key := w711 (Q := Q) (n := n) (xs := xs) hv hp' h12 (x2 := x2) (x3 := x3) (x4 := x4) (x5 := x5) (x6 := x6) (x7 := x7) (x8 := volH f 24 + volL f (p + 1)) (fun M8 h8 => ih (p + 1) M8 h8 (by omega)) (vN (lay f (2 * p + 1))) 0 M7 h7 (by omega)
    have z0' : vS (lay f (2 * p + 1)) 0 = 0 := hv.1.1.1
    rw [z0'] at key
    exact key
/-- the areas of half layers -/
theorem w544 (hF : RF f) (hQ : ∀ M1, LI M1 f → Q 1 M1) {x2 x3 x4 x5 x6 x7 : Int} : ∀ (t k : Nat) (M : Mm), LI M f → k + t = 24 → L_1222_544 n xs x2 x3 x4 x5 x6 x7 (volH f k) (k : Int) M Q := by
  intro t
  induction t with
  | zero =>
    intro k M h hk
    have ek : k = 24 := by omega
    subst ek
    refine s_1222_544 ⟨fun _ => ?_, fun g => by omega⟩
    have := w625 (n := n) (xs := xs) hF hQ (x2 := x2) (x3 := x3) (x4 := x4) (x5 := x5) (x6 := x6) (x7 := x7) (nP f) 0 M h (by omega)
    have z : volL f 0 = 0 := rfl
    rw [z, Int.add_zero] at this
    exact this
  | succ t ih =>
    intro k M h hk
    have b1 := vol_b f k
    have h1 := hcnt_le f k
    have h2 := hcnt_le f (k + 1)
    have h3 := hc_le f k
    have ek : (k : Int) + 1 = ((k + 1 : Nat) : Int) := by omega
    have nx : ∀ M1, LI M1 f → L_1222_596 n xs x2 x3 x4 x5 x6 x7 (volH f k) (k : Int) M1 Q := fun M1 g1 => by
      refine s_1222_596 (a919 g1 (by omega) fun M2 g2 => ⟨by omega, ?_⟩)
      rw [ek]
      refine a919 g2 (by omega) fun M3 g3 => ⟨by omega, fun x8 e8 => ⟨by omega, ?_⟩⟩
      have e : x8 = volH f (k + 1) := e8
      rw [e]
      exact ih (k + 1) M3 g3 (by omega)
    refine s_1222_544 ⟨fun g => by omega, fun _ => a919 h (by omega) fun M1 g1 => ⟨by omega, ?_⟩⟩
    rw [ek]
    refine a919 g1 (by omega) fun M2 g2 => ⟨fun g => by omega, fun _ => a919 g2 (by omega) fun M3 g3 => ⟨fun _ => nx M3 g3, fun gp => a919 g3 (by omega) fun M4 g4 => ⟨by omega, a919 g4 (by omega) fun M5 g5 => ⟨fun _ => nx M5 g5, fun g => ?_⟩⟩⟩⟩
    have := hc_lt (f := f) (k := k) (by omega)
    omega
/-- the groups -/
theorem w484 (hF : RF f) (hQ : ∀ M1, LI M1 f → Q 1 M1) {x2 x4 : Int} : ∀ (t g : Nat) (M : Mm), LI M f → g + t = xG (lay f 1) → L_1222_484 n xs x2 (vE (lay f 1) : Int) x4 (lnS f (vE (lay f 1))) (gS (lay f 1) 2 g) (gS (lay f 1) 3 g) (g : Int) M Q := by
  have hle := xG_le (lay f 1)
  have h312 : vE (lay f 1) ≤ 312 := Vok.le (f := f) (k := 0) hF.2.1 |>.2
  intro t
  induction t with
  | zero =>
    intro g M h hg
    have eg : g = xG (lay f 1) := by omega
    subst eg
    refine s_1222_484 (a914 h fun M1 h1 => ⟨fun _ => ⟨fun q => absurd gS_2 q, fun _ => ⟨fun _ => ?_, fun q => absurd gS_3 q⟩⟩, fun q => by omega⟩)
    exact w544 hF hQ 24 0 M1 h1 (by omega)
  | succ t ih =>
    intro g M h hg
    have hs := gfst_s (P := lay f 1) (g := g) (by omega)
    have b1 := gS_b hF.2.1 g (by omega)
    have b2 := gS_b hF.2.1 (g + 1) (by omega)
    rw [gS_s, gS_s] at b2
    refine s_1222_484 (a914 h fun M1 h1 => ⟨fun q => by omega, fun _ => a915 h1 hs (by omega) (by omega) fun M2 h2 => ⟨by omega, fun x6 e6 => a915 h2 hs (by omega) (by omega) fun M3 h3 => ⟨by omega, fun x7 e7 => ⟨by omega, ?_⟩⟩⟩⟩)
    have := ih (g + 1) M3 h3 (by omega)
    rw [gS_s, gS_s, ← e6, ← e7, show ((g + 1 : Nat) : Int) = (g : Int) + 1 by omega] at this
    exact this
/-- the edges -/
theorem w318 (hF : RF f) (hQ : ∀ M1, LI M1 f → Q 1 M1) : ∀ (t e : Nat) (M : Mm), LI M f → e + t = vE (lay f 1) → L_1222_318 n xs (clN f 144) (vE (lay f 1) : Int) (fcS f e) (lnS f e) (e : Int) M Q := by
  have h312 : vE (lay f 1) ≤ 312 := Vok.le (f := f) (k := 0) hF.2.1 |>.2
  have hev : vE (lay f 1) % 2 = 0 := vE_even (k := 0) hF.2.1
  have hco := corN_le hF.2.1
  have hcp := corN_pos (f := f)
  intro t
  induction t with
  | zero =>
    intro e M h he
    have ee : e = vE (lay f 1) := by omega
    subst ee
    refine s_1222_318 ⟨fun _ => ⟨fun q => absurd (fcS_all hF.2.1) q, fun _ => ⟨by omega, fun d ed => ?_⟩⟩, fun q => by omega⟩
    rw [tmod_p (by omega)] at ed
    refine ⟨fun q => by omega, fun _ => a913 h fun M1 h1 => ⟨fun q => by omega, fun _ => a913 h1 fun M2 h2 b eb b1 eb1 => ⟨fun _ => ?_, fun q => ?_⟩⟩⟩
    · exact w484 hF hQ (xG (lay f 1)) 0 M2 h2 (by omega)
    · exfalso
      refine q ?_
      rw [eb, eb1]
      by_cases g : 0 < clN f 144
      · have g2 := hcp.mpr g
        rw [if_neg (by omega), if_neg (by omega)]
      · have g2 : ¬ 0 < corN (cel f) := fun z => g (hcp.mp z)
        rw [if_pos (by omega), if_pos (by omega)]
  | succ t ih =>
    intro e M h he
    have he' : e < vE (lay f 1) := by omega
    have b1 := fcS_b (f := f) e
    have b2 : fcN f e 144 ≤ 144 := cntB_le _ _
    have b3 := lnS_b hF.2.1 e (by omega)
    have b4 := edge_pos hF.2.1 he'
    have b : Dir (xD (lay f 1) e) ∧ (0 ≤ xL (lay f 1) e ∧ xL (lay f 1) e ≤ 12) ∧ (0 ≤ xA (lay f 1) e ∧ xA (lay f 1) e ≤ 12) ∧ 0 ≤ xB (lay f 1) e ∧ xB (lay f 1) e ≤ 12 := (EG.of hF.2.1).2 e he'
    have hN : 0 < nP f := vE_N hF.1 he'
    have p1 := prf_1 (dr_0 hF.2.1 he') (nP f) hN
    have p2 := prf_le (drB f e) (nP f)
    have v0 : edV f e 0 = xD (lay f 1) e := by unfold edV; rw [if_pos rfl]
    have v2 : edV f e 2 = xA (lay f 1) e := by unfold edV; rw [if_neg (by omega), if_neg (by omega), if_pos rfl]
    have v3 : edV f e 3 = xB (lay f 1) e := by unfold edV; rw [if_neg (by omega), if_neg (by omega), if_neg (by omega), if_pos rfl]
    have v5 : edV f e 5 = (fcN f e 144 : Int) := by unfold edV; rw [if_neg (by omega), if_neg (by omega), if_neg (by omega), if_neg (by omega), if_neg (by omega), if_pos rfl]
    have v6 : edV f e 6 = (prf (drB f e) (nP f) : Int) := by unfold edV; rw [if_neg (by omega), if_neg (by omega), if_neg (by omega), if_neg (by omega), if_neg (by omega), if_neg (by omega)]
    have hd : 0 ≤ xD (lay f 1) e ∧ xD (lay f 1) e ≤ 3 := by
      have := b.1
      unfold Dir at this
      omega
    refine s_1222_318 ⟨fun q => by omega, fun _ => a912 h he' (by omega) (by omega) fun M1 h1 => ?_⟩
    rw [v5]
    refine ⟨by omega, fun x4 e4 => a912 h1 he' (by omega) (by omega) fun M2 h2 => a912 h2 he' (by omega) (by omega) fun M3 h3 => ?_⟩
    rw [v2, v3]
    refine ⟨by omega, fun x5 e5 => a912 h3 he' (by omega) (by omega) fun M4 h4 => a912 h4 he' (by omega) (by omega) fun M5 h5 => ?_⟩
    rw [v2, v3]
    refine ⟨fun q => by omega, fun _ => a912 h5 he' (by omega) (by omega) fun M6 h6 => ?_⟩
    rw [v6]
    refine ⟨fun q => by omega, fun _ => a912 h6 he' (by omega) (by omega) fun M7 h7 => a921 h7 fun M8 h8 _ => ?_⟩
    rw [v6]
    refine ⟨fun q => by omega, fun _ => a912 h8 he' (by omega) (by omega) fun M9 h9 => ?_⟩
    rw [v0]
    refine ⟨fun q => by omega, fun _ => a912 h9 he' (by omega) (by omega) fun M10 h10 => ?_⟩
    rw [v0]
    refine ⟨fun _ => ⟨by omega, ?_⟩, fun q => by omega⟩
    have := ih (e + 1) M10 h10 (by omega)
    have e4' : fcS f (e + 1) = x4 := by rw [e4]; rfl
    have e5' : lnS f (e + 1) = x5 := by rw [e5]; rfl
    rw [e4', e5', show ((e + 1 : Nat) : Int) = (e : Int) + 1 by omega] at this
    exact this
/-- the cells -/
theorem w117 (hF : RF f) (hQ : ∀ M1, LI M1 f → Q 1 M1) : ∀ (t c : Nat) (M : Mm), LI M f → c + t = 144 → L_1222_117 n xs (clN f c) (vE (lay f 1) : Int) (c : Int) M Q := by
  intro t
  induction t with
  | zero =>
    intro c M h hc
    have ec : c = 144 := by omega
    subst ec
    have b := clN_b f 144
    have h1 := clN_size f
    have h2 := clN_hc f
    have h3 := hc_24 f
    refine s_1222_117 ⟨fun _ => a933 h fun M1 g1 => ⟨fun q => absurd h1 q, fun _ => ?_⟩, fun q => by omega⟩
    refine a919 (k := 0) g1 (by omega) fun M2 g2 => ⟨by omega, fun q => absurd h2 q, fun _ => a919 (k := 24) g2 (by omega) fun M3 g3 => ⟨fun _ => ?_, fun q => by rw [h3] at q; exact absurd rfl q⟩⟩
    exact w318 hF hQ (vE (lay f 1)) 0 M3 g3 (by omega)
  | succ t ih =>
    intro c M h hc
    have b := clN_b f c
    have hx : c % 12 < 12 := by omega
    have hy : c / 12 < 12 := by omega
    have ih := fun M1 h1 => ih (c + 1) M1 h1 (by omega)
    rw [clN_s, show ((c + 1 : Nat) : Int) = (c : Int) + 1 by omega] at ih
    refine s_1222_117 ⟨fun q => by omega, fun _ => ⟨by omega, fun d ed => ⟨by omega, fun d1 ed1 => ?_⟩⟩⟩
    rw [tmod_p (by omega)] at ed
    rw [tdiv_p (by omega)] at ed1
    rw [show d = ((c % 12 : Nat) : Int) by omega, show d1 = ((c / 12 : Nat) : Int) by omega]
    generalize c % 12 = x at *
    generalize c / 12 = y at *
    have hfc : (cel f (x : Int) (y : Int) = true → 0 ≤ fcC f (12 * y + x) ∧ fcC f (12 * y + x) < vE (lay f 1)) ∧ (cel f (x : Int) (y : Int) = false → fcC f (12 * y + x) = -1) := ⟨fun e => by obtain ⟨k, k1, k2⟩ := fc_t hF.2.1 hx hy e; omega, fun e => fc_f hx hy e⟩
    have tf : ∀ {v : Int} {β : Bool} (_ : β = true → ¬ (v < 0)) (_ : β = false → v < 0), b2i β = if v < 0 then 0 else 1 := fun {v β} a1 a2 => by
      cases β with
      | true => rw [if_neg (a1 rfl)]; rfl
      | false => rw [if_pos (a2 rfl)]; rfl
    refine a918 h hx hy fun M1 h1 => a910 h1 hx hy fun M2 h2 b eb => ?_
    have ebb : b2i (cel f (x : Int) (y : Int)) = b := by
      rw [eb]
      exact tf (fun e => by have := hfc.1 e; omega) (fun e => by have := hfc.2 e; omega)
    have hle : -1 ≤ fcC f (12 * y + x) ∧ fcC f (12 * y + x) < vE (lay f 1) := by
      cases e : cel f (x : Int) (y : Int) with
      | true => have := hfc.1 e; omega
      | false => have := hfc.2 e; omega
    refine ⟨fun q => absurd ebb q, fun _ => ⟨fun q => by omega, fun _ => ⟨fun q => by omega, fun _ => a910 h2 hx hy fun M3 h3 => ⟨by omega, a917 h3 (by omega) (by omega) fun a M4 ha h4 b1 eb1 => ?_⟩⟩⟩⟩
    have k1 := ht_1 ha hx hy
    have ebb1 : b2i (cel f (x : Int) (y : Int)) = b1 := by
      rw [eb1]
      cases e : cel f (x : Int) (y : Int) with
      | true => rw [if_neg (by have := k1.1 e; omega)]; rfl
      | false => rw [if_pos (k1.2 e)]; rfl
    refine ⟨fun q => absurd ebb1 q, fun _ => a910 h4 hx hy fun M5 h5 => ⟨by omega, a917 h5 (by omega) (by omega) fun a2 M6 ha2 h6 b2 eb2 => ?_⟩⟩
    have k2 := ht_4 ha2 hx hy
    have ebb2 : b2i (cel f (x : Int) (y : Int)) = b2 := by
      rw [eb2]
      cases e : cel f (x : Int) (y : Int) with
      | true => rw [if_neg (by have := k2.1 e; omega)]; rfl
      | false => rw [if_pos (k2.2 e)]; rfl
    refine ⟨fun _ b3 eb3 => ?_, fun q => absurd ebb2 q⟩
    have e3 : b3 = b2i (cel f (x : Int) (y : Int)) := by rw [ebb, eb, eb3]
    have h01 := b2i_c (cel f (x : Int) (y : Int))
    rw [e3]
    refine ⟨by omega, fun x2 e2 => ⟨by omega, ?_⟩⟩
    rw [e2]
    exact ih M6 h6
end LW
/-- THE LAW'S RUN -/
theorem lawrun : LawRun := by
  intro L xs hL hxs
  have key : WpL L xs 7 1222 8 [some (.inr (.inr (51, 0))), some (.inr (.inr (9, 0))), none, none, none, none, none, none, none, none, none, none, none, none, none, none, none, none, none, none, none, none, none, none, none, none, none] [] M0 (rI fun (r : Int) (_ : Mm) => r = 1) := by
    refine s_1222_8 (a911F LI_0 fun M1 h1 hF => ?_)
    rw [vE_0 hF]
    refine ⟨fun g => absurd rfl g, fun _ => a921 h1 fun M2 h2 _ => ?_⟩
    rw [nP_0]
    refine ⟨fun g => absurd rfl g, fun _ => a920 h2 fun M3 h3 => ?_⟩
    rw [nP_0]
    refine ⟨fun g => absurd rfl g, fun _ => a916 h3 fun M4 h4 => ?_⟩
    rw [sym_0]
    refine ⟨fun g => absurd rfl g, fun _ => a929 h4 fun M5 h5 => ?_⟩
    rw [roots_0]
    refine ⟨fun g => absurd rfl g, fun _ => a927 h5 fun M6 h6 => ?_⟩
    rw [nP_0]
    refine ⟨fun g => absurd rfl g, fun _ => a913 h6 fun M7 h7 => ?_⟩
    rw [cor_0]
    refine ⟨fun g => absurd rfl g, fun _ => a914 h7 fun M8 h8 => ?_⟩
    rw [xG_0 hF]
    refine ⟨fun g => absurd rfl g, fun _ => a905 h8 fun M9 h9 => ⟨fun g => absurd rfl g, fun _ => a919 (k := 0) h9 (by omega) fun M10 h10 => ?_⟩⟩
    rw [hc_0]
    refine ⟨fun g => absurd rfl g, fun _ => a918 (x := 3) (y := 4) h10 (by omega) (by omega) fun M11 h11 => ?_⟩
    rw [fc_0]
    refine ⟨fun g => absurd rfl g, fun _ => a902 h11 fun M12 f1 h12 => ?_⟩
    rw [size_0]
    refine ⟨fun _ => w1225 h12 fun M13 f2 h13 => a911F h13 fun M14 h14 hF2 => ?_, fun g => absurd rfl g⟩
    exact w117 hF2 (fun M15 h15 => rfl) 144 0 M14 h14 (by omega)
  obtain ⟨v, M', ⟨k, run⟩, r, hv, hr⟩ := key
  subst hr
  subst hv
  exact ⟨k, M', run⟩

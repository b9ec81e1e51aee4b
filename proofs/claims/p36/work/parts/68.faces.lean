/-! edges have a length; faces -/
theorem lay1_x {f : Nat → Int} {x : Int} (hx : x % 4 = 3) (y : Int) : lay f 1 x y = (lay f 1 (x - 1) y && lay f 1 (x + 2) y) ∧ lay f 1 (x + 1) y = (lay f 1 (x - 1) y && lay f 1 (x + 2) y) := by
  have both : ∀ z : Int, (z = x ∨ z = x + 1) → lay f 1 z y = (lay f 1 (x - 1) y && lay f 1 (x + 2) y) := by
    intro z hz
    rw [Bool.eq_iff_iff, Bool.and_eq_true, lay_w, lay_w, lay_w]
    constructor
    · intro h
      refine ⟨fun i j a b c d => ?_, fun i j a b c d => ?_⟩
      · obtain ⟨i', i1, i2, i3⟩ : ∃ i' : Int, -((1 : Nat) : Int) ≤ i' ∧ i' ≤ ((1 : Nat) : Int) ∧ (z + i') / 4 = (x - 1 + i) / 4 := by
          rcases hz with rfl | rfl
          · exact ⟨-1, by omega, by omega, by omega⟩
          · exact ⟨-1, by omega, by omega, by omega⟩
        rw [← i3]; exact h i' j i1 i2 c d
      · obtain ⟨i', i1, i2, i3⟩ : ∃ i' : Int, -((1 : Nat) : Int) ≤ i' ∧ i' ≤ ((1 : Nat) : Int) ∧ (z + i') / 4 = (x + 2 + i) / 4 := by
          rcases hz with rfl | rfl
          · exact ⟨1, by omega, by omega, by omega⟩
          · exact ⟨1, by omega, by omega, by omega⟩
        rw [← i3]; exact h i' j i1 i2 c d
    · rintro ⟨h1, h2⟩ i j a b c d
      by_cases q : (z + i) / 4 = (x - 1) / 4
      · have := h1 0 j (by omega) (by omega) c d
        rw [show x - 1 + 0 = x - 1 by omega] at this
        rw [q]; exact this
      · have := h2 0 j (by omega) (by omega) c d
        rw [show x + 2 + 0 = x + 2 by omega] at this
        rw [show (z + i) / 4 = (x + 2) / 4 by omega]; exact this
  exact ⟨both x (Or.inl rfl), both (x + 1) (Or.inr rfl)⟩
theorem lay1_y {f : Nat → Int} {y : Int} (hy : y % 4 = 3) (x : Int) : lay f 1 x y = (lay f 1 x (y - 1) && lay f 1 x (y + 2)) ∧ lay f 1 x (y + 1) = (lay f 1 x (y - 1) && lay f 1 x (y + 2)) := by
  have both : ∀ z : Int, (z = y ∨ z = y + 1) → lay f 1 x z = (lay f 1 x (y - 1) && lay f 1 x (y + 2)) := by
    intro z hz
    rw [Bool.eq_iff_iff, Bool.and_eq_true, lay_w, lay_w, lay_w]
    constructor
    · intro h
      refine ⟨fun i j a b c d => ?_, fun i j a b c d => ?_⟩
      · obtain ⟨i', i1, i2, i3⟩ : ∃ i' : Int, -((1 : Nat) : Int) ≤ i' ∧ i' ≤ ((1 : Nat) : Int) ∧ (z + i') / 4 = (y - 1 + j) / 4 := by
          rcases hz with rfl | rfl
          · exact ⟨-1, by omega, by omega, by omega⟩
          · exact ⟨-1, by omega, by omega, by omega⟩
        rw [← i3]; exact h i i' a b i1 i2
      · obtain ⟨i', i1, i2, i3⟩ : ∃ i' : Int, -((1 : Nat) : Int) ≤ i' ∧ i' ≤ ((1 : Nat) : Int) ∧ (z + i') / 4 = (y + 2 + j) / 4 := by
          rcases hz with rfl | rfl
          · exact ⟨1, by omega, by omega, by omega⟩
          · exact ⟨1, by omega, by omega, by omega⟩
        rw [← i3]; exact h i i' a b i1 i2
    · rintro ⟨h1, h2⟩ i j a b c d
      by_cases q : (z + j) / 4 = (y - 1) / 4
      · have := h1 i 0 a b (by omega) (by omega)
        rw [show y - 1 + 0 = y - 1 by omega] at this
        rw [q]; exact this
      · have := h2 i 0 a b (by omega) (by omega)
        rw [show y + 2 + 0 = y + 2 by omega] at this
        rw [show (z + j) / 4 = (y + 2) / 4 by omega]; exact this
  exact ⟨both y (Or.inl rfl), both (y + 1) (Or.inr rfl)⟩
theorem x16 : ∀ a b c d : Bool, ((c ^^ (c && d)) ^^ (a ^^ (a && b))) = true → (((c && d) ^^ d) ^^ ((a && b) ^^ b)) = true → (a && b) = (c && d) := by decide
theorem y16 : ∀ a b c d : Bool, ((c ^^ a) ^^ ((c && d) ^^ (a && b))) = true → (((c && d) ^^ (a && b)) ^^ (d ^^ b)) = true → (a && b) = (c && d) := by decide
theorem seg_x {f : Nat → Int} {x y : Int} (hx : x % 4 = 3) (b1 : bn (lay f 1) x y = true) (b2 : bn (lay f 1) (x + 2) y = true) : lay f 1 x y = lay f 1 x (y - 1) ∧ lay f 1 (x + 1) y = lay f 1 (x + 1) (y - 1) := by
  unfold bn at b1 b2
  rw [show x + 2 - 1 = x + 1 by omega] at b2
  rw [(lay1_x hx y).1, (lay1_x hx (y - 1)).1] at b1
  rw [(lay1_x hx y).2, (lay1_x hx (y - 1)).2] at b2
  rw [(lay1_x hx y).1, (lay1_x hx y).2, (lay1_x hx (y - 1)).1, (lay1_x hx (y - 1)).2]
  have := x16 _ _ _ _ b1 b2
  exact ⟨this, this⟩
theorem seg_y {f : Nat → Int} {x y : Int} (hy : y % 4 = 3) (b1 : bn (lay f 1) x y = true) (b2 : bn (lay f 1) x (y + 2) = true) : lay f 1 x y = lay f 1 (x - 1) y ∧ lay f 1 x (y + 1) = lay f 1 (x - 1) (y + 1) := by
  unfold bn at b1 b2
  rw [show y + 2 - 1 = y + 1 by omega] at b2
  rw [(lay1_y hy x).1, (lay1_y hy (x - 1)).1] at b1
  rw [(lay1_y hy x).2, (lay1_y hy (x - 1)).2] at b2
  rw [(lay1_y hy x).1, (lay1_y hy x).2, (lay1_y hy (x - 1)).1, (lay1_y hy (x - 1)).2]
  have := y16 _ _ _ _ b1 b2
  exact ⟨this, this⟩
theorem edge_pos {f : Nat → Int} (h : Vok (lay f 1)) {i : Nat} (hi : i < vE (lay f 1)) : xA (lay f 1) i < xB (lay f 1) i := by
  have hD : NoD (lay f 1) := pk_nod f 0
  have hb := h.1.1.bend hi
  have hN : RunN (lay f 1) (vX (lay f 1) i) (vY (lay f 1) i) (lvd (lay f 1) (vX (lay f 1) i) (vY (lay f 1) i)) (vL (lay f 1) i) := h.2 i hi
  have hE := bn_lv hD hb
  have o1 := bn_odd (f := f) (k := 0) hb
  have o2 := bn_odd (f := f) (k := 0) hN.2.2
  have hb2 := hN.2.2
  have hn := hN.1
  show (loS (sD (lay f 1) i) _ _ _ + 1) / 4 < (hiS (sD (lay f 1) i) _ _ _ + 1) / 4
  have e : lvd (lay f 1) (vX (lay f 1) i) (vY (lay f 1) i) = sD (lay f 1) i := rfl
  rw [e] at hE o2 hb2
  generalize sD (lay f 1) i = d at *
  generalize vX (lay f 1) i = x at *
  generalize vY (lay f 1) i = y at *
  generalize vL (lay f 1) i = n at *
  refine Classical.byContradiction fun hlt => ?_
  unfold loS hiS algS risS levV at hlt
  rcases hE with ⟨rfl, p1, p2⟩ | ⟨rfl, p1, p2⟩ | ⟨rfl, p1, p2⟩ | ⟨rfl, p1, p2⟩
  · simp [stepXV, stepYV] at o2 hb2 hlt
    have hn2 : n = 2 := by omega
    subst hn2
    have := (seg_x (x := x) (by omega) hb hb2).1
    rw [p1, p2] at this
    cases this
  · simp [stepXV, stepYV] at o2 hb2 hlt
    have hn2 : n = 2 := by omega
    subst hn2
    have := (seg_y (y := y) (by omega) hb hb2).1
    rw [p1, p2] at this
    cases this
  · simp [stepXV, stepYV] at o2 hb2 hlt
    have hn2 : n = 2 := by omega
    subst hn2
    have := (seg_x (x := x - 2) (by omega) (by rw [show x - 2 = x + -2 by omega]; exact hb2) (by rw [show x - 2 + 2 = x by omega]; exact hb)).2
    rw [show x - 2 + 1 = x - 1 by omega, p1, p2] at this
    cases this
  · simp [stepXV, stepYV] at o2 hb2 hlt
    have hn2 : n = 2 := by omega
    subst hn2
    have := (seg_y (y := y - 2) (by omega) (by rw [show y - 2 = y + -2 by omega]; exact hb2) (by rw [show y - 2 + 2 = y by omega]; exact hb)).2
    rw [show y - 2 + 1 = y - 1 by omega, p1, p2] at this
    cases this
/-- the first that holds -/
theorem fsE_s (b : Nat → Bool) : ∀ n, (fsE b n = -1 ∧ ∀ e, e < n → b e = false) ∨ ∃ e : Nat, e < n ∧ fsE b n = e ∧ b e = true ∧ ∀ e', e' < e → b e' = false
  | 0 => Or.inl ⟨rfl, fun e h => absurd h (Nat.not_lt_zero e)⟩
  | n + 1 => by
    have ih := fsE_s b n
    have e1 : fsE b (n + 1) = if b n then (if 0 ≤ fsE b n then fsE b n else (n : Int)) else fsE b n := rfl
    rcases ih with ⟨h1, h2⟩ | ⟨e, h1, h2, h3, h4⟩
    · cases hb : b n with
      | true =>
        refine Or.inr ⟨n, by omega, ?_, hb, h2⟩
        rw [e1, hb, if_pos rfl, h1, if_neg (by omega)]
      | false =>
        refine Or.inl ⟨by rw [e1, hb, if_neg (by decide), h1], fun e he => ?_⟩
        by_cases q : e = n
        · rw [q]; exact hb
        · exact h2 e (by omega)
    · refine Or.inr ⟨e, by omega, ?_, h3, h4⟩
      rw [e1, h2]
      cases b n
      · exact if_neg (by decide)
      · rw [if_pos rfl, if_pos (by omega)]
def lnF (px py h d : Int) : Int := (if levV d = 0 then px else py) + (if upV d = 0 then h else -h)
def alF (px py d : Int) : Int := if levV d = 0 then py else px
/-- a face's edge touches a square of side 2h over a point -/
noncomputable def fB (P : Int → Int → Bool) (px py h : Int) (e : Nat) : Bool := decide (8 * xL P e = lnF px py h (xD P e) ∧ alF px py (xD P e) - h < 8 * xB P e ∧ 8 * xA P e < alF px py (xD P e) + h)
/-- the face of a point -/
noncomputable def fcV (P : Int → Int → Bool) (px py h : Int) : Int := fsE (fB P px py h) (vE P)
theorem c517 {c : Nat} {s : Int} {P : Int → Int → Bool} {M : Mm} {Q : Int → Mm → Prop} (hc : c < 144) (hs : M.1 608 0 c = s) (hs0 : 0 ≤ s ∧ s ≤ 25) (hg : EG P) (hE : Edc M P) (hQ : Q (fcV P (2 * smx c + 1) (2 * smy c + 1) (2 * s - 1)) M) : E_517 (c : Int) M Q := by
  have ha : atN 144 (M.1 608 0) (c : Int) = s := by rw [atN_i (by omega) (by omega), Int.toNat_natCast]; exact hs
  have hT := hg.1
  refine s_517_0 ?_
  rw [ha]
  refine ⟨⟨by omega, by omega⟩, fun x2 e2 => ⟨by omega, fun d ed => ?_⟩⟩
  rw [tmod_p (by omega)] at ed
  refine ⟨⟨by omega, by omega⟩, fun x3 e3 => ⟨by omega, fun d1 ed1 => ?_⟩⟩
  rw [tdiv_p (by omega)] at ed1
  refine ⟨⟨by omega, by omega⟩, fun x4 e4 => ?_⟩
  have e3' : x3 = 2 * smx c + 1 := by unfold smx; omega
  have e4' : x4 = 2 * smy c + 1 := by unfold smy; omega
  have h34 : 0 ≤ x3 ∧ x3 ≤ 96 ∧ 0 ≤ x4 ∧ x4 ≤ 96 := by omega
  rw [← e2, ← e3', ← e4'] at hQ
  have key : ∀ (s q : Nat) (r : Int), q + s = 4 → ((r = -1 ∧ ∀ e, e < vE P → xD P e < q → fB P x3 x4 x2 e = false) ∨ ∃ e : Nat, e < vE P ∧ r = e ∧ fB P x3 x4 x2 e = true ∧ xD P e < q ∧ ∀ e', e' < e → xD P e' < q → fB P x3 x4 x2 e' = false) → L_517_40 (c : Int) x2 x3 x4 r (q : Int) M Q := by
    intro s
    induction s with
    | zero =>
      intro q r hq hr
      refine s_517_40 ⟨fun _ => ?_, fun h => by omega⟩
      have hd4 : ∀ e, e < vE P → xD P e < q := fun e he => by
        have : Dir (xD P e) := (hg.2 e he).1
        unfold Dir at this
        omega
      have : r = fcV P x3 x4 x2 := by
        unfold fcV
        rcases fsE_s (fB P x3 x4 x2) (vE P) with ⟨h1, h2⟩ | ⟨e, h1, h2, h3, h4⟩
        · rcases hr with ⟨g1, -⟩ | ⟨e, g1, g2, g3, -⟩
          · rw [g1, h1]
          · rw [h2 e g1] at g3; cases g3
        · rcases hr with ⟨g1, g2⟩ | ⟨e', g1, g2, g3, g4, g5⟩
          · rw [g2 e h1 (hd4 e h1)] at h3; cases h3
          · rw [h2, g2]
            rcases Nat.lt_trichotomy e e' with k | k | k
            · rw [g5 e k (hd4 e h1)] at h3; cases h3
            · rw [k]
            · rw [h4 e' k] at g3; cases g3
      rw [this]; exact hQ
    | succ s ih =>
      intro q r hq hr
      have hd : Dir (q : Int) := by unfold Dir; omega
      refine s_517_40 ⟨fun h => by omega, fun _ b eb b1 eb1 => ?_⟩
      have hb : 0 ≤ b ∧ b ≤ 96 := by rw [eb]; split <;> omega
      have hb1 : 0 ≤ b1 ∧ b1 ≤ 96 := by rw [eb1]; split <;> omega
      refine ⟨fun _ => by omega, fun _ => by omega, fun b2 eb2 => ?_⟩
      have hb2 : b2 = lnF x3 x4 x2 q := by
        rw [eb2, eb]; unfold lnF
        split <;> omega
      have hb3 : b1 = alF x3 x4 q := eb1
      have hr2 : -1000 ≤ b2 ∧ b2 ≤ 1000 := by rw [eb2]; split <;> omega
      refine ⟨⟨by omega, by omega⟩, c9 hg hE hd hr2 ?_⟩
      have hw : ∀ a b' c' : Int, whV 1 a b' c' = b' := fun a b' c' => by unfold whV; rw [if_neg (by decide), if_pos rfl]
      rw [hw]
      intro r' er
      refine ⟨by omega, ih (q + 1) r' (by omega) ?_⟩
      have ov : ∀ e, xD P e = q → ovE P (vX P) (vY P) (vL P) q b2 (b1 - x2) (b1 + x2) e = fB P x3 x4 x2 e := by
        intro e he
        have e1 : ovE P (vX P) (vY P) (vL P) q b2 (b1 - x2) (b1 + x2) e = decide (xD P e = q ∧ 8 * xL P e = b2 ∧ b1 - x2 < 8 * xB P e ∧ 8 * xA P e < b1 + x2) := rfl
        have e2 : fB P x3 x4 x2 e = decide (8 * xL P e = lnF x3 x4 x2 (xD P e) ∧ alF x3 x4 (xD P e) - x2 < 8 * xB P e ∧ 8 * xA P e < alF x3 x4 (xD P e) + x2) := rfl
        rw [e1, e2, he, ← hb2, ← hb3]
        rw [Bool.eq_iff_iff, decide_eq_true_iff, decide_eq_true_iff]
        exact ⟨fun h => h.2, fun h => ⟨rfl, h⟩⟩
      have ov2 : ∀ e, xD P e ≠ q → ovE P (vX P) (vY P) (vL P) q b2 (b1 - x2) (b1 + x2) e = false := fun e he => decide_eq_false fun h => he h.1
      rcases fsE_s (ovE P (vX P) (vY P) (vL P) q b2 (b1 - x2) (b1 + x2)) (vE P) with ⟨h1, h2⟩ | ⟨e, h1, h2, h3, h4⟩
      · rw [h1, if_pos (by omega)] at er
        rw [er]
        have no : ∀ e, e < vE P → xD P e = q → fB P x3 x4 x2 e = false := fun e he hx => by rw [← ov e hx]; exact h2 e he
        rcases hr with ⟨g1, g2⟩ | ⟨e', g1, g2, g3, g4, g5⟩
        · refine Or.inl ⟨g1, fun e he hx => ?_⟩
          by_cases k : xD P e = q
          · exact no e he k
          · exact g2 e he (by omega)
        · refine Or.inr ⟨e', g1, g2, g3, by omega, fun e he hx => ?_⟩
          by_cases k : xD P e = q
          · exact no e (by omega) k
          · exact g5 e he (by omega)
      · have hxe : xD P e = q := Classical.byContradiction fun hn => by rw [ov2 e hn] at h3; cases h3
        rw [h2, if_neg (by omega)] at er
        have hbe : fB P x3 x4 x2 e = true := by rw [← ov e hxe]; exact h3
        have no : ∀ e', e' < e → xD P e' = q → fB P x3 x4 x2 e' = false := fun e' he hx => by rw [← ov e' hx]; exact h4 e' he
        rcases hr with ⟨g1, g2⟩ | ⟨e', g1, g2, g3, g4, g5⟩
        · rw [if_pos (by omega)] at er
          refine Or.inr ⟨e, h1, er, hbe, by omega, fun e' he hx => ?_⟩
          by_cases k : xD P e' = q
          · exact no e' he k
          · exact g2 e' (by omega) (by omega)
        · rw [if_neg (by omega)] at er
          by_cases hle : e' ≤ e
          · rw [if_pos (by omega)] at er
            refine Or.inr ⟨e', g1, by omega, g3, by omega, fun e'' he hx => ?_⟩
            by_cases k : xD P e'' = q
            · exact no e'' (by omega) k
            · exact g5 e'' he (by omega)
          · rw [if_neg (by omega)] at er
            refine Or.inr ⟨e, h1, er, hbe, by omega, fun e'' he hx => ?_⟩
            by_cases k : xD P e'' = q
            · exact no e'' he k
            · exact g5 e'' (by omega) (by omega)
  exact key 4 0 (-1) rfl (Or.inl ⟨rfl, fun e he hx => by
    have : Dir (xD P e) := (hg.2 e he).1
    unfold Dir at this
    omega⟩)

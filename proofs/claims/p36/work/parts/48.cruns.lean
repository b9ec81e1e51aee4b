/-! the class: the runs of a phase -/
theorem st_mod {f : Nat → Int} {k : Nat} {a y : Int} (h : lay f (2 * k + 1) a y = true) (h2 : lay f (2 * k + 1) (a - 1) y = false) : (a - 2 * k - 1) % 4 = 0 := by
  by_cases g : (a - 2 * k - 1) % 4 = 0
  · exact g
  · exfalso
    have : lay f (2 * k + 1) (a - 1) y = true := pk_w.mpr fun u v u1 u2 v1 v2 => pk_w.mp h u v (by omega) (by omega) v1 v2
    rw [this] at h2
    cases h2
theorem st_far {f : Nat → Int} {k : Nat} {a b y : Int} (ha : lay f (2 * k + 1) a y = true) (ha2 : lay f (2 * k + 1) (a - 1) y = false) (hb : lay f (2 * k + 1) b y = true) (hb2 : lay f (2 * k + 1) (b - 1) y = false) (hab : a < b) : a + 8 ≤ b := by
  have m1 := st_mod ha ha2
  have m2 := st_mod hb hb2
  rcases Int.lt_or_le b (a + 8) with g | g
  · exfalso
    have e : b = a + 4 := by omega
    subst e
    have : lay f (2 * k + 1) (a + 4 - 1) y = true := pk_w.mpr fun u v u1 u2 v1 v2 => by
      by_cases q : u ≤ (a + 2 * k + 1) / 4
      · exact pk_w.mp ha u v (by omega) q v1 v2
      · exact pk_w.mp hb u v (by omega) (by omega) v1 v2
    rw [this] at hb2
    cases hb2
  · exact g
/-- the runs lo to hi of row y, all cells below e -/
def RowOk (P : Int → Int → Bool) (y lo hi e : Nat) (rw a b : Nat → Nat) : Prop := (∀ r, lo ≤ r → r < hi → rw r = y ∧ a r < b r ∧ b r ≤ 48 ∧ b r ≤ e ∧ (∀ x : Nat, a r ≤ x → x < b r → P x y = true) ∧ P (b r) y = false ∧ P ((a r : Int) - 1) y = false) ∧ (∀ r, lo ≤ r → r + 1 < hi → b r < a (r + 1)) ∧ (∀ x : Nat, x < 48 → P x y = true → x < e → ∃ r, lo ≤ r ∧ r < hi ∧ a r ≤ x ∧ x < b r)
theorem RowOk.cg {P : Int → Int → Bool} {y lo hi e : Nat} {rw a b rw' a' b' : Nat → Nat} (h : RowOk P y lo hi e rw a b) (g : ∀ r, r < hi → rw' r = rw r ∧ a' r = a r ∧ b' r = b r) : RowOk P y lo hi e rw' a' b' := by
  obtain ⟨h1, h2, h3⟩ := h
  refine ⟨fun r r1 r2 => ?_, fun r r1 r2 => ?_, fun x x1 x2 x3 => ?_⟩
  · obtain ⟨g1, g2, g3⟩ := g r r2
    rw [g1, g2, g3]
    exact h1 r r1 r2
  · rw [(g r (by omega)).2.2, (g (r + 1) r2).2.1]
    exact h2 r r1 r2
  · obtain ⟨r, r1, r2, r3, r4⟩ := h3 x x1 x2 x3
    obtain ⟨g1, g2, g3⟩ := g r r2
    exact ⟨r, r1, r2, by rw [g2]; exact r3, by rw [g3]; exact r4⟩
def RS (P : Int → Int → Bool) (S : Nat → Nat) (R : Nat) (rw a b : Nat → Nat) : Prop := S 0 = 0 ∧ S 48 = R ∧ ∀ y, y < 48 → S y ≤ S (y + 1) ∧ RowOk P y (S y) (S (y + 1)) 48 rw a b
/-- the runs as they stand in memory -/
def CR (M : Mm) (i : Nat) (S : Nat → Nat) (R : Nat) (rw a b : Nat → Nat) : Prop := M.1 3 i 9 = R ∧ (∀ y, y ≤ 48 → M.1 402 i y = S y) ∧ ∀ r, r < R → M.1 404 i r = rw r ∧ ∀ x, bJ (M.2 403 i r) x = decide (a r ≤ x ∧ x < b r)
theorem c306 {i R : Nat} {w : Int64} {y : Int} {M : Mm} {Q : Mm → Prop} (hR : M.1 3 i 9 = R) (h288 : R < 288) (hQ : ∀ M', Fx (fun t j => (t = 3 ∨ t = 403 ∨ t = 404 ∨ t = 405) ∧ j = i) M M' → M'.1 3 i 9 = (R + 1 : Nat) → (∀ k, k ≠ 9 → M'.1 3 i k = M.1 3 i k) → M'.2 403 i = upj (M.2 403 i) R w → M'.1 404 i = putN 288 (M.1 404 i) R y → M'.1 405 i = putN 288 (M.1 405 i) R (-1) → Q M') : E_306 i w y M Q := by
  refine s_306_0 ⟨fun g => by omega, fun _ => ⟨fun g => by omega, fun _ => ⟨by omega, fun M1 e1 M2 e2 M3 e3 => ?_⟩⟩⟩
  have a1 : M1.1 3 i 9 = R := by rw [e1, setJ_1, hR]
  have a2 : M2.1 3 i 9 = R := by rw [e2, setA_ne (by omega), a1]
  have a3 : M3.1 3 i 9 = R := by rw [e3, setA_ne (by omega), a2]
  rw [hR, Int.toNat_natCast] at e1
  rw [a1] at e2
  rw [a2] at e3
  rw [a3]
  refine ⟨by omega, fun M4 e4 => ?_⟩
  refine hQ M4 ?_ ?_ (fun k hk => ?_) ?_ ?_ ?_
  · rw [e4, e3, e2, e1]
    exact (((Fx.setJ ⟨by simp, rfl⟩).tr (Fx.setA ⟨by simp, rfl⟩)).tr (Fx.setA ⟨by simp, rfl⟩)).tr (Fx.setI ⟨by simp, rfl⟩)
  · rw [e4, setI_at, ups_at]; rfl
  · rw [e4, setI_at, ups_ne hk, e3, setA_ne (by omega), e2, setA_ne (by omega), e1, setJ_1]
  · rw [e4, setI_2, e3, setA_2, e2, setA_2, e1, setJ_at]
  · rw [e4, setI_ne (by omega), e3, setA_ne (by omega), e2, setA_at, e1, setJ_1]
  · rw [e4, setI_ne (by omega), e3, setA_at, e2, setA_ne (by omega), e1, setJ_1]
def T305 (i t j : Nat) : Prop := (t = 3 ∨ t = 402 ∨ t = 403 ∨ t = 404 ∨ t = 405) ∧ j = i
theorem c305 {i k : Nat} {f : Nat → Int} {M : Mm} {Q : Mm → Prop} (hRep : Rep (M.2 401 i) (lay f (2 * k + 1))) (hQ : ∀ M' S R rw a b, Fx (T305 i) M M' → RS (lay f (2 * k + 1)) S R rw a b → CR M' i S R rw a b → R ≤ 288 → (∀ r, r < R → M'.1 405 i r = -1) → (∀ k, k ≠ 9 → M'.1 3 i k = M.1 3 i k) → Q M') : E_305 i M Q := by
  refine s_305_0 fun M1 e1 => ?_
  have hg := lay_g f (2 * k + 1)
  generalize hP : lay f (2 * k + 1) = P at *
  -- up to row y
  have key : ∀ (s y : Nat) (M' : Mm) (S : Nat → Nat) (R : Nat) (rw a b : Nat → Nat), y + s = 48 → Fx (T305 i) M M' → S 0 = 0 → S y = R → R ≤ 6 * y → (∀ y', y' < y → S y' ≤ S (y' + 1) ∧ S (y' + 1) ≤ R ∧ RowOk P y' (S y') (S (y' + 1)) 48 rw a b) → M'.1 3 i 9 = R → (∀ y', y' < y → M'.1 402 i y' = S y') → (∀ r, r < R → M'.1 404 i r = rw r ∧ ∀ x, bJ (M'.2 403 i r) x = decide (a r ≤ x ∧ x < b r)) → (∀ r, r < R → M'.1 405 i r = -1) → (∀ k, k ≠ 9 → M'.1 3 i k = M.1 3 i k) → L_305_7 i (y : Int) M' Q := by
    intro s
    induction s with
    | zero =>
      intro y M2 S R rw a b hy g1 g2 g3 g4 g5 g6 g7 g8 g9 g10
      have e : y = 48 := by omega
      subst e
      refine s_305_7 ⟨fun _ M3 e3 => ?_, fun g => by omega⟩
      rw [g6] at e3
      have q402 : M3.1 402 i = putN 49 (M2.1 402 i) 48 R := by rw [e3, setA_at]
      refine hQ M3 S R rw a b (g1.tr (by rw [e3]; exact Fx.setA ⟨by simp, rfl⟩)) ⟨g2, g3, fun y' hy' => ⟨(g5 y' hy').1, (g5 y' hy').2.2⟩⟩ ⟨by rw [e3, setA_ne (by omega), g6], fun y' hy' => ?_, fun r hr => ?_⟩ (by omega) (fun r hr => ?_) (fun k hk => ?_)
      · rw [q402]
        by_cases e : y' = 48
        · subst e; rw [putN_at (by omega) (by omega), g3]
        · rw [putN_ne (by omega)]; exact g7 y' (by omega)
      · rw [e3, setA_ne (by omega), setA_2]; exact g8 r hr
      · rw [e3, setA_ne (by omega)]; exact g9 r hr
      · rw [e3, setA_ne (by omega)]; exact g10 k hk
    | succ s ih =>
      intro y M2 S R rw a b hy g1 g2 g3 g4 g5 g6 g7 g8 g9 g10
      refine s_305_7 ⟨fun g => by omega, fun _ => ⟨by omega, fun w0 ew0 M3 e3 => ?_⟩⟩
      rw [Int.toNat_natCast, (g1 401 i (by simp [T305])).2] at ew0
      rw [g6] at e3
      have q402 : M3.1 402 i = putN 49 (M2.1 402 i) y R := by rw [e3, setA_at]
      have hw0 : ∀ x, bJ w0 x = (decide (x < 48) && P x y) := fun x => by rw [ew0]; exact hRep y (by omega) x
      -- runs in row y
      have inner : ∀ (t j : Nat) (w : Int64) (M' : Mm) (R' e : Nat) (rw' a' b' : Nat → Nat), j + t = 48 → Fx (T305 i) M M' → R' = R + j → e ≤ 48 → (j = 0 → e = 0) → (0 < j → e = b' (R' - 1) ∧ 8 * (j - 1) + 1 ≤ a' (R' - 1)) → (∀ x, bJ w x = (decide (x < 48) && P x y && decide (e ≤ x))) → RowOk P y R R' e rw' a' b' → (∀ r, r < R → rw' r = rw r ∧ a' r = a r ∧ b' r = b r) → M'.1 3 i 9 = R' → (∀ y', y' < y + 1 → M'.1 402 i y' = S y') → (∀ r, r < R' → M'.1 404 i r = rw' r ∧ ∀ x, bJ (M'.2 403 i r) x = decide (a' r ≤ x ∧ x < b' r)) → (∀ r, r < R' → M'.1 405 i r = -1) → (∀ k, k ≠ 9 → M'.1 3 i k = M.1 3 i k) → L_305_38 i (y : Int) w (j : Int) M' Q := by
        intro t
        induction t with
        | zero =>
          intro j w M4 R' e rw' a' b' hj k1 k2 k3 k4 k5 k6 k7 k8 k9 k10 k11 k12 k13
          exfalso
          have h5 := k5 (by omega)
          have h6 := k7.1 (R' - 1) (by omega) (by omega)
          omega
        | succ t ih2 =>
          intro j w M4 R' e rw' a' b' hj k1 k2 k3 k4 k5 k6 k7 k8 k9 k10 k11 k12 k13
          refine s_305_38 ⟨fun g => by omega, fun _ => ⟨fun hz => ⟨by omega, ?_⟩, fun hz w' ew' => ?_⟩⟩
          · -- the row is at its end
            have hcov : RowOk P y R R' 48 rw' a' b' := by
              refine ⟨fun r r1 r2 => ?_, k7.2.1, fun x x1 x2 x3 => ?_⟩
              · obtain ⟨p1, p2, p3, p4, p5⟩ := k7.1 r r1 r2
                exact ⟨p1, p2, p3, p3, p5⟩
              · have hx := k6 x
                rw [hz, bJ_0, decide_eq_true x1, x2, Bool.true_and, Bool.true_and] at hx
                have hxe : x < e := by
                  rcases Nat.lt_or_ge x e with q | q
                  · exact q
                  · rw [decide_eq_true q] at hx; cases hx
                exact k7.2.2 x x1 x2 hxe
            have hR6 : R' ≤ 6 * (y + 1) := by
              by_cases e0 : j = 0
              · omega
              · have h5 := k5 (by omega)
                have h6 := k7.1 (R' - 1) (by omega) (by omega)
                omega
            have S' : ∃ S' : Nat → Nat, (∀ y', y' ≤ y → S' y' = S y') ∧ S' (y + 1) = R' := ⟨fun y' => if y' = y + 1 then R' else S y', fun y' hy' => if_neg (by omega), if_pos rfl⟩
            obtain ⟨S', hS1, hS2⟩ := S'
            refine ih (y + 1) M4 S' R' rw' a' b' (by omega) k1 (by rw [hS1 0 (by omega), g2]) hS2 hR6 (fun y' hy' => ?_) k9 (fun y' hy' => by rw [k10 y' hy', hS1 y' (by omega)]) k11 k12 k13
            by_cases e0 : y' = y
            · subst e0
              rw [hS1 y' (Nat.le_refl _), hS2, g3]
              exact ⟨by omega, by omega, hcov⟩
            · obtain ⟨p1, p2, p3⟩ := g5 y' (by omega)
              rw [hS1 y' (by omega), hS1 (y' + 1) (by omega)]
              exact ⟨p1, by omega, p3.cg fun r hr => k8 r (by omega)⟩
          · have hb48 : ∀ x, 48 ≤ x → bJ w x = false := fun x hx => by rw [k6 x, decide_eq_false (by omega), Bool.false_and, Bool.false_and]
            obtain ⟨ra, rb, r1, r2, r3, r4, r5, r6, -⟩ := run_b hz hb48
            have pa : P ra y = true ∧ e ≤ ra := by
              have := r4 ra (Nat.le_refl _) r1
              rw [k6 ra, Bool.and_eq_true, Bool.and_eq_true] at this
              exact ⟨this.1.2, of_decide_eq_true this.2⟩
            have pin : ∀ x : Nat, ra ≤ x → x < rb → P x y = true := by
              intro x x1 x2
              have := r4 x x1 x2
              rw [k6 x, Bool.and_eq_true, Bool.and_eq_true] at this
              exact this.1.2
            have pb : P rb y = false := by
              by_cases q : rb < 48
              · have := r5
                rw [k6 rb, decide_eq_true q, decide_eq_true (show e ≤ rb by omega), Bool.true_and, Bool.and_true] at this
                exact this
              · cases h : P rb y with
                | false => rfl
                | true => exact absurd (hg _ _ h) (by omega)
            have pe : 0 < j → P e y = false := fun h0 => by
              obtain ⟨q1, q2⟩ := k5 h0
              rw [q1]
              exact (k7.1 (R' - 1) (by omega) (by omega)).2.2.2.2.2.1
            have pm : P ((ra : Int) - 1) y = false := by
              by_cases q : ra = 0
              · subst q
                cases h : P (((0 : Nat) : Int) - 1) y with
                | false => rfl
                | true => exact absurd (hg _ _ h) (by omega)
              · by_cases q2 : e ≤ ra - 1
                · have := r3 (ra - 1) (by omega)
                  rw [k6 (ra - 1), decide_eq_true (show ra - 1 < 48 by omega), decide_eq_true q2, Bool.true_and, Bool.and_true] at this
                  rw [show (ra : Int) - 1 = ((ra - 1 : Nat) : Int) by omega]
                  exact this
                · have e1 : e = ra := by omega
                  have hj0 : 0 < j := by
                    rcases Nat.eq_zero_or_pos j with h0 | h0
                    · have := k4 h0; omega
                    · exact h0
                  have := pe hj0
                  rw [e1, pa.1] at this
                  cases this
            have far : 8 * j + 1 ≤ ra := by
              have hin := hg _ _ pa.1
              by_cases h0 : j = 0
              · have hlay := pa.1
                rw [← hP] at hlay
                have := lay_in hlay
                omega
              · obtain ⟨q1, q2⟩ := k5 (by omega)
                have h6 := k7.1 (R' - 1) (by omega) (by omega)
                have s1 := h6.2.2.2.2.1 (a' (R' - 1)) (Nat.le_refl _) h6.2.1
                have s2 := h6.2.2.2.2.2.2
                have p1 := pa.1
                have p2 := pm
                rw [← hP] at s1 s2 p1 p2
                have := st_far s1 s2 p1 p2 (by omega)
                omega
            have hj5 : j ≤ 5 := by omega
            refine c306 k9 (by omega) fun M5 f5 h1 h1b h2 h3 h4 w2 ew2 => ⟨by omega, ?_⟩
            have ew : w' = runV w := ew'
            have cg : ∀ r, r < R' → (if r = R' then y else rw' r) = rw' r ∧ (if r = R' then ra else a' r) = a' r ∧ (if r = R' then rb else b' r) = b' r := fun r hr => ⟨if_neg (by omega), if_neg (by omega), if_neg (by omega)⟩
            refine ih2 (j + 1) w2 M5 (R' + 1) rb (fun r => if r = R' then y else rw' r) (fun r => if r = R' then ra else a' r) (fun r => if r = R' then rb else b' r) (by omega) (k1.tr (f5.up fun t j g => ⟨by rcases g.1 with h | h | h | h <;> simp [h], g.2⟩)) (by omega) r2 (fun h => by omega) (fun _ => ⟨?_, ?_⟩) (fun x => ?_) ?_ (fun r hr => ?_) (by rw [h1]) (fun y' hy' => ?_) (fun r hr => ?_) (fun r hr => ?_) (fun q hq => ?_)
            · show rb = if R' + 1 - 1 = R' then rb else _
              rw [if_pos (by omega)]
            · show 8 * (j + 1 - 1) + 1 ≤ if R' + 1 - 1 = R' then ra else _
              rw [if_pos (by omega)]
              omega
            · rw [ew2, ew, bJ_xor, r6, k6]
              by_cases c1 : x < ra
              · rw [decide_eq_false (show ¬ (ra ≤ x ∧ x < rb) by omega), decide_eq_false (show ¬ rb ≤ x by omega), Bool.and_false, Bool.xor_false]
                have := r3 x c1
                rw [k6] at this
                exact this
              · by_cases c2 : x < rb
                · rw [decide_eq_true (show ra ≤ x ∧ x < rb by omega), decide_eq_false (show ¬ rb ≤ x by omega), Bool.and_false, decide_eq_true (show x < 48 by omega), pin x (by omega) c2, decide_eq_true (show e ≤ x by omega)]
                  rfl
                · rw [decide_eq_false (show ¬ (ra ≤ x ∧ x < rb) by omega), decide_eq_true (show rb ≤ x by omega), decide_eq_true (show e ≤ x by omega), Bool.xor_false]
            · refine ⟨fun r q1 q2 => ?_, fun r q1 q2 => ?_, fun x x1 x2 x3 => ?_⟩
              · by_cases e0 : r = R'
                · subst e0
                  simp only [if_true]
                  exact ⟨trivial, r1, r2, Nat.le_refl _, pin, pb, pm⟩
                · simp only [if_neg e0]
                  obtain ⟨p1, p2, p3, p4, p5⟩ := k7.1 r q1 (by omega)
                  exact ⟨p1, p2, p3, by omega, p5⟩
              · have e0 : r ≠ R' := by omega
                simp only [if_neg e0]
                by_cases e1 : r + 1 = R'
                · rw [if_pos e1]
                  obtain ⟨q3, q4⟩ := k5 (by omega)
                  have q5 : R' - 1 = r := by omega
                  rw [q5] at q3
                  have q6 : b' r ≠ ra := fun h => by
                    have := pe (by omega)
                    rw [q3, h, pa.1] at this
                    cases this
                  omega
                · rw [if_neg e1]
                  exact k7.2.1 r q1 (by omega)
              · by_cases q : x < e
                · obtain ⟨r, q1, q2, q3, q4⟩ := k7.2.2 x x1 x2 q
                  exact ⟨r, q1, by omega, by dsimp only; rw [if_neg (by omega)]; exact q3, by dsimp only; rw [if_neg (by omega)]; exact q4⟩
                · refine ⟨R', by omega, by omega, ?_, ?_⟩
                  · dsimp only
                    rw [if_pos rfl]
                    rcases Nat.lt_or_ge x ra with c | c
                    · have := r3 x c
                      rw [k6, decide_eq_true x1, x2, decide_eq_true (show e ≤ x by omega)] at this
                      cases this
                    · exact c
                  · dsimp only
                    rw [if_pos rfl]; exact x3
            · obtain ⟨c1, c2, c3⟩ := cg r (by omega)
              obtain ⟨d1, d2, d3⟩ := k8 r hr
              exact ⟨c1.trans d1, c2.trans d2, c3.trans d3⟩
            · rw [(f5 402 i (by simp)).1]
              exact k10 y' hy'
            · rw [h3, h2]
              by_cases e0 : r = R'
              · subst e0
                rw [putN_at (by omega) rfl, upj_at, if_pos rfl, if_pos rfl, if_pos rfl, ew]
                exact ⟨rfl, r6⟩
              · rw [putN_ne (by omega), upj_ne e0, if_neg e0, if_neg e0, if_neg e0]
                exact k11 r (by omega)
            · rw [h4]
              by_cases e0 : r = R'
              · subst e0; rw [putN_at (by omega) rfl]
              · rw [putN_ne (by omega)]; exact k12 r (by omega)
            · rw [h1b q hq]; exact k13 q hq
      refine inner 48 0 w0 M3 R 0 rw a b rfl (g1.tr (by rw [e3]; exact Fx.setA ⟨by simp, rfl⟩)) rfl (by omega) (fun _ => rfl) (fun h => absurd h (Nat.lt_irrefl 0)) (fun x => by rw [hw0, decide_eq_true (Nat.zero_le x), Bool.and_true]) ⟨fun r q1 q2 => by omega, fun r q1 q2 => by omega, fun x _ _ q => absurd q (Nat.not_lt_zero x)⟩ (fun r _ => ⟨rfl, rfl, rfl⟩) (by rw [e3, setA_ne (by omega), g6]) (fun y' hy' => ?_) (fun r hr => by rw [e3, setA_ne (by omega), setA_2]; exact g8 r hr) (fun r hr => by rw [e3, setA_ne (by omega)]; exact g9 r hr) (fun q hq => by rw [e3, setA_ne (by omega)]; exact g10 q hq)
      rw [q402]
      by_cases e : y' = y
      · subst e; rw [putN_at (by omega) rfl, g3]
      · rw [putN_ne (by omega)]; exact g7 y' (by omega)
  exact key 48 0 M1 (fun _ => 0) 0 (fun _ => 0) (fun _ => 0) (fun _ => 0) rfl (by rw [e1]; exact Fx.setI ⟨by simp, rfl⟩) rfl rfl (by omega) (fun y' h => absurd h (Nat.not_lt_zero y')) (by rw [e1, setI_at, ups_at]; rfl) (fun y' h => absurd h (Nat.not_lt_zero y')) (fun r h => absurd h (Nat.not_lt_zero r)) (fun r h => absurd h (Nat.not_lt_zero r)) (fun q hq => by rw [e1, setI_at, ups_ne hq])

/-! the class: following a contour -/
theorem PhC.keep {M M' : Mm} {f : Nat → Int} {k : Nat} (h : PhC M f k) (e : (M'.1 3 k 9 = M.1 3 k 9 ∧ M'.1 402 k = M.1 402 k ∧ M'.1 404 k = M.1 404 k ∧ M'.1 405 k = M.1 405 k) ∧ M'.2 401 k = M.2 401 k ∧ M'.2 403 k = M.2 403 k) : PhC M' f k := by
  obtain ⟨q1, S', R', rw', a', b', q2, q3, ⟨q4, q5, q6⟩, q7⟩ := h
  obtain ⟨⟨e1, e2, e3, e4⟩, e5, e6⟩ := e
  refine ⟨by rw [e5]; exact q1, S', R', rw', a', b', q2, q3, ⟨?_, fun y hy => ?_, fun r hr => ?_⟩, fun r q hr => ?_⟩
  · rw [e1, q4]
  · rw [e2]; exact q5 y hy
  · rw [e3, e6]; exact q6 r hr
  · rw [e4]; exact q7 r q hr
theorem first_dir {P : Int → Int → Bool} (hg : InG P) (hD : NoD P) {n : Nat} {st : Nat → Nat} {xs ys : Nat → Int} {bx bY : Int} (h : Ct P n st xs ys) (hb : bn P bx bY = true) (hu : ∀ j, j < st n → ¬ (xs j = bx ∧ ys j = bY)) (hl : ∀ x y, bn P x y = true → kxy x y < kxy bx bY → ∃ j, j < st n ∧ xs j = x ∧ ys j = y) : (lvd P bx bY = 0 ∧ P bx bY = true) ∨ (lvd P bx bY = 1 ∧ P bx bY = false ∧ P (bx - 1) bY = true) := by
  have he := bn_lv hD hb
  have no : ∀ n' : Nat, RunN P bx bY (lvd P bx bY) n' → kxy (bx + n' * stepXV (lvd P bx bY)) (bY + n' * stepYV (lvd P bx bY)) < kxy bx bY → False := by
    intro n' hN hk
    obtain ⟨j, j1, j2, j3⟩ := hl _ _ hN.2.2 hk
    obtain ⟨i, i1, i2⟩ := h.pred j1
    rw [j2, j3] at i2
    have := Nx.inj hD (h.bend i1) hb i2 ⟨n', hN, rfl, rfl⟩
    exact hu i i1 this
  have hex : (lvd P bx bY = 2 ∨ lvd P bx bY = 3) → False := by
    intro hd
    obtain ⟨n', -, hN⟩ := RunN.ex hg hD he
    refine no n' hN ?_
    have h0 := hN.1
    rcases step_cases he.dir with ⟨e, a, b⟩ | ⟨e, a, b⟩ | ⟨e, a, b⟩ | ⟨e, a, b⟩
    · omega
    · omega
    · rw [a, b]; unfold kxy; omega
    · rw [a, b]; unfold kxy; omega
  rcases he with ⟨e, h1, h2⟩ | ⟨e, h1, h2⟩ | ⟨e, h1, h2⟩ | ⟨e, h1, h2⟩
  · exact Or.inl ⟨e, h1⟩
  · exact Or.inr ⟨e, h2, h1⟩
  · exact absurd (hex (Or.inl e)) id
  · exact absurd (hex (Or.inr e)) id
theorem ar_four {g : Nat → Int64} {P : Int → Int → Bool} (hg : InG P) (hR : Rep g P) (x y : Int) : arV g x y = four P x y := by
  unfold arV four
  rw [covV_P hg hR, covV_P hg hR, covV_P hg hR, covV_P hg hR]
  have o : ∀ b : Bool, o1 (b2i b) = b2i b := fun b => by cases b <;> rfl
  rw [o, o, o, o]
def fl (P : Int → Int → Bool) (x y : Int) : Bool := decide (four P x y = 1)
theorem hol_v {P : Int → Int → Bool} {x y : Int} : (lvd P x y = 0 → hol P x y = 0) ∧ (lvd P x y = 1 → hol P x y = 1) := by
  unfold hol
  constructor
  · intro h; rw [if_pos (by omega)]
  · intro h; rw [if_neg (by omega)]
def cum (ln : Nat → Nat) (m : Nat) : Int := sumN (fun i => (ln i : Int)) m
theorem cum_s (ln : Nat → Nat) (m : Nat) : cum ln (m + 1) = cum ln m + ln m := rfl
def TO (k t j : Nat) : Prop := (t = 2 ∨ t = 300 ∨ t = 301 ∨ t = 302 ∨ t = 303 ∨ t = 304 ∨ t = 305 ∨ t = 306 ∨ t = 307 ∨ t = 308 ∨ t = 310) ∧ j = k
def SideC (M : Mm) (k i : Nat) (P : Int → Int → Bool) (x y : Int) (n : Nat) : Prop := RunN P x y (lvd P x y) n ∧ M.1 305 k i = lvd P x y ∧ M.1 306 k i = linS (lvd P x y) x y ∧ M.1 307 k i = loS (lvd P x y) x y n ∧ M.1 308 k i = hiS (lvd P x y) x y n
/-- contour c as the class keeps it -/
def ConC (M : Mm) (k c : Nat) (P : Int → Int → Bool) (st : Nat → Nat) (xs ys : Nat → Int) (ln : Nat → Nat) : Prop := M.1 300 k c = st c ∧ M.1 301 k c = (st (c + 1) : Int) - st c ∧ M.1 302 k c = hol P (xs (st c)) (ys (st c)) ∧ M.1 303 k c = lb (cp P) (cid (xs (st c) - hol P (xs (st c)) (ys (st c))) (ys (st c))) ∧ M.1 304 k c = cum ln (st (c + 1)) - cum ln (st c)
def OC (M0 M : Mm) (k : Nat) (P : Int → Int → Bool) (n T : Nat) (st : Nat → Nat) (xs ys : Nat → Int) (ln : Nat → Nat) : Prop := Fx (TO k) M0 M ∧ (∀ y : Nat, y < 49 → ∀ x : Nat, bJ (M.2 310 k y) x = true ↔ (x ≤ 48 ∧ bn P x y = true ∧ ∀ j, j < T → ¬ (xs j = x ∧ ys j = y))) ∧ (∀ i, i < T → SideC M k i P (xs i) (ys i) (ln i)) ∧ (∀ c, c < n → ConC M k c P st xs ys ln) ∧ M.1 2 k 11 = n ∧ M.1 2 k 12 = sumN (fun c => hol P (xs (st c)) (ys (st c))) n ∧ M.1 2 k 13 = T
theorem c203 {f : Nat → Int} {k n : Nat} {st : Nat → Nat} {xs ys : Nat → Int} {ln : Nat → Nat} {bx bY : Int} {M0 M : Mm} {Q : Mm → Prop} (hph : PhC M0 f k) (hB : Bds (M0.2 309 k) (lay f (2 * k + 1))) (hct : Ct (lay f (2 * k + 1)) n st xs ys) (hoc : OC M0 M k (lay f (2 * k + 1)) n (st n) st xs ys ln) (h14 : M.1 2 k 14 = cntB (fun j => fl (lay f (2 * k + 1)) (xs j) (ys j)) (st n)) (h15 : M.1 2 k 15 = cum ln (st n)) (hb : bn (lay f (2 * k + 1)) bx bY = true) (hu : ∀ j, j < st n → ¬ (xs j = bx ∧ ys j = bY)) (hl : ∀ x y, bn (lay f (2 * k + 1)) x y = true → kxy x y < kxy bx bY → ∃ j, j < st n ∧ xs j = x ∧ ys j = y)
    (hQ : ∀ M' st' xs' ys' ln', Ct (lay f (2 * k + 1)) (n + 1) st' xs' ys' → OC M0 M' k (lay f (2 * k + 1)) (n + 1) (st' (n + 1)) st' xs' ys' ln' → M'.1 2 k 14 = cntB (fun j => fl (lay f (2 * k + 1)) (xs' j) (ys' j)) (st' (n + 1)) → M'.1 2 k 15 = cum ln' (st' (n + 1)) → (∀ x y, (∃ j, j < st n ∧ xs j = x ∧ ys j = y) → ∃ j, j < st' (n + 1) ∧ xs' j = x ∧ ys' j = y) → (∃ j, j < st' (n + 1) ∧ xs' j = bx ∧ ys' j = bY) → Q M') : E_203 k k bx bY M Q := by
  have hg := lay_g f (2 * k + 1)
  have hD := pk_nod f k
  have hRep := hph.1
  have hwle := fun xs ys qx qy m => Cw.le (f := f) (k := k) (n := n) (st := st) (xs := xs) (ys := ys) (bx := bx) (bY := bY) (qx := qx) (qy := qy) (m := m)
  have hn78 := Ct.n78 hct
  have hbi := bn_in hg hb
  obtain ⟨o1', o2, o3, o4, o5, o6, o7⟩ := id hoc
  generalize hP : lay f (2 * k + 1) = P at *
  have hRepM : ∀ M', Fx (TO k) M0 M' → Rep (M'.2 401 k) P := fun M' g => by rw [(g 401 k (by simp [TO])).2]; exact hRep
  have hBM : ∀ M', Fx (TO k) M0 M' → Bds (M'.2 309 k) P := fun M' g => by rw [(g 309 k (by simp [TO])).2]; exact hB
  have hfd := first_dir hg hD hct hb hu hl
  refine s_203_0 fun b eb x5 e5 b1 eb1 => ?_
  rw [covV_P hg (hRepM M o1')] at eb
  have hbh : b = hol P bx bY ∧ b1 = lvd P bx bY := by
    rcases hfd with ⟨h1, h2⟩ | ⟨h1, h2, -⟩
    · rw [h2, if_pos (by decide)] at eb
      rw [eb] at eb1 ⊢
      rw [eb1, hol_v.1 h1, h1]
      exact ⟨rfl, rfl⟩
    · rw [h2, if_neg (by decide)] at eb
      rw [eb] at eb1 ⊢
      rw [eb1, hol_v.2 h1, h1]
      exact ⟨rfl, rfl⟩
  rw [hbh.1, hbh.2, e5, o7]
  have hhol : hol P bx bY = 0 ∨ hol P bx bY = 1 := by
    unfold hol
    split
    · exact Or.inl rfl
    · exact Or.inr rfl
  have loop : ∀ (t m : Nat) (xs1 ys1 : Nat → Int) (ln1 : Nat → Nat) (qx qy : Int) (op : Int) (M' : Mm), st n + m + t = 313 → Cw P n st xs1 ys1 bx bY m qx qy → OC M0 M' k P n (st n + m) st xs1 ys1 ln1 → M'.1 2 k 14 + b2i (fl P bx bY) = cntB (fun j => fl P (xs1 j) (ys1 j)) (st n + m) + b2i (fl P qx qy) → M'.1 2 k 15 = cum ln1 (st n) → op = (if 0 < m ∧ qx = bx ∧ qy = bY then 0 else 1) → (∀ i, i < st n → xs1 i = xs i ∧ ys1 i = ys i) → (∀ i, i < st n + m → ln1 i ≤ 48) → L_203_49 k k bx bY (hol P bx bY) (st n : Int) (lvd P qx qy) qx qy (cum ln1 (st n + m) - cum ln1 (st n)) op (m : Int) M' Q := by
    intro t
    induction t with
    | zero =>
      intro m xs1 ys1 ln1 qx qy op M1 ht w _ _ _ _ _ _
      have := hwle xs1 ys1 qx qy m w
      omega
    | succ t ih =>
      intro m xs1 ys1 ln1 qx qy op M1 ht w oc c14 c15 hop hold hln
      have hT := hwle xs1 ys1 qx qy m w
      have hq := w.2.2.2.2.2.2.2.1
      have hqi := bn_in hg hq
      obtain ⟨p1, p2, p3, p4, p5, p6, p7⟩ := id oc
      have cumb : ∀ u, u ≤ st n + m → 0 ≤ cum ln1 u ∧ cum ln1 u ≤ 48 * u := fun u hu => sumN_bd (fun i hi => by have := hln i (by omega); omega)
      have cb1 := cumb (st n + m) (Nat.le_refl _)
      have cb2 := cumb (st n) (by omega)
      have hcnt := cntB_le (fun j => fl P (xs1 j) (ys1 j)) (st n + m)
      have hb2 : ∀ b : Bool, 0 ≤ b2i b ∧ b2i b ≤ 1 := fun b => by cases b <;> decide
      have hsum : 0 ≤ sumN (fun c => hol P (xs1 (st c)) (ys1 (st c))) n ∧ sumN (fun c => hol P (xs1 (st c)) (ys1 (st c))) n ≤ 1 * n := sumN_bd (fun c _ => by unfold hol; split <;> omega)
      refine s_203_49 ⟨fun g => by omega, fun _ => ⟨fun h0 => ?_, fun h1 => ?_⟩⟩
      · -- the contour is closed
        have hcl : 0 < m ∧ qx = bx ∧ qy = bY := by
          rw [hop] at h0
          split at h0
          · next h => exact h
          · cases h0
        obtain ⟨hm, eq1, eq2⟩ := hcl
        rw [eq1, eq2] at w c14
        obtain ⟨st', hs1, hs2⟩ : ∃ st' : Nat → Nat, (∀ c, c ≤ n → st' c = st c) ∧ st' (n + 1) = st n + m := ⟨fun c => if c = n + 1 then st n + m else st c, fun c hc => if_neg (by omega), if_pos rfl⟩
        have hct' := w.fin hm hs1 hs2
        obtain ⟨v1, v2⟩ := w.2.2.2.1 hm
        intro M2 e2
        rw [p5] at e2
        have t2 : M2.1 2 k = M1.1 2 k := by rw [e2, setA_ne (by omega)]
        rw [t2, p7]
        refine ⟨by omega, fun M3 e3 b eb M4 e4 => ?_⟩
        have t3 : M3.1 2 k = M1.1 2 k := by rw [e3, setA_ne (by omega), t2]
        have t4 : M4.1 2 k = M1.1 2 k := by rw [e4, setA_ne (by omega), t3]
        rw [p5] at e3
        rw [t3, p5] at e4
        have eb' : b = hol P bx bY := by
          rw [eb]
          rcases hhol with h | h <;> rw [h] <;> rfl
        rw [eb'] at e4
        refine ⟨by omega, fun _ => by omega, fun b1 eb1 => ?_⟩
        have eb1' : b1 = bx - hol P bx bY := by
          rw [eb1]
          rcases hhol with h | h <;> rw [h]
          · rw [if_pos rfl]; omega
          · rw [if_neg (by decide)]
        rw [eb1']
        have hcell : P (bx - hol P bx bY) bY = true := by
          rcases hfd with ⟨g1, g2⟩ | ⟨g1, -, g3⟩
          · rw [hol_v.1 g1, Int.sub_zero]; exact g2
          · rw [hol_v.2 g1]; exact g3
        have hin := hg _ _ hcell
        have hc2304 := cid_lt hin.1 hin.2.1 hin.2.2.1 hin.2.2.2
        have hce : bY * 48 + (bx - hol P bx bY) = ((cid (bx - hol P bx bY) bY : Nat) : Int) := by unfold cid; omega
        rw [hce]
        have f4 : Fx (TO k) M0 M4 := p1.tr (by rw [e4, e3, e2]; exact ((Fx.setA ⟨by simp, rfl⟩).tr (Fx.setA ⟨by simp, rfl⟩)).tr (Fx.setA ⟨by simp, rfl⟩))
        have ph4 : PhC M4 f k := hph.keep ⟨⟨by rw [(f4 3 k (by simp [TO])).1], (f4 402 k (by simp [TO])).1, (f4 404 k (by simp [TO])).1, (f4 405 k (by simp [TO])).1⟩, (f4 401 k (by simp [TO])).2, (f4 403 k (by simp [TO])).2⟩
        refine ⟨by omega, c311 ph4 hc2304 fun M5 e5 M6 e6 => ?_⟩
        have t5 : M5.1 2 k = M1.1 2 k := by rw [e5, setA_ne (by omega), t4]
        have t6 : M6.1 2 k = M1.1 2 k := by rw [e6, setA_ne (by omega), t5]
        rw [t4, p5] at e5
        rw [t5, p5] at e6
        rw [t6, p5]
        refine ⟨by omega, fun M7 e7 b2 eb2 => ?_⟩
        have eb2' : b2 = hol P bx bY := by
          rw [eb2]
          rcases hhol with h | h <;> rw [h] <;> rfl
        have t7 : M7.1 2 k = ups (M1.1 2 k) 11 ((n : Int) + 1) := by rw [e7, setI_at, t6]
        rw [eb2', t7, ups_ne (by omega), p6]
        refine ⟨by omega, fun M8 e8 => ?_⟩
        have t8 : M8.1 2 k = ups (ups (M1.1 2 k) 11 ((n : Int) + 1)) 12 (sumN (fun c => hol P (xs1 (st c)) (ys1 (st c))) n + hol P bx bY) := by rw [e8, setI_at, t7]
        have q15 : M8.1 2 k 15 = cum ln1 (st n) := by rw [t8, ups_ne (by omega), ups_ne (by omega), c15]
        rw [q15]
        refine ⟨by omega, fun M9 e9 => ?_⟩
        have t9 : M9.1 2 k = ups (ups (ups (M1.1 2 k) 11 ((n : Int) + 1)) 12 (sumN (fun c => hol P (xs1 (st c)) (ys1 (st c))) n + hol P bx bY)) 15 (cum ln1 (st n) + (cum ln1 (st n + m) - cum ln1 (st n))) := by rw [e9, setI_at, t8]
        have q300 : M9.1 300 k = putN 96 (M1.1 300 k) n (st n) := by
          rw [e9, setI_ne (by omega), e8, setI_ne (by omega), e7, setI_ne (by omega), e6, setA_ne (by omega), e5, setA_ne (by omega), e4, setA_ne (by omega), e3, setA_ne (by omega), e2, setA_at]
        have q301 : M9.1 301 k = putN 96 (M1.1 301 k) n (((st n + m : Nat) : Int) - st n) := by
          rw [e9, setI_ne (by omega), e8, setI_ne (by omega), e7, setI_ne (by omega), e6, setA_ne (by omega), e5, setA_ne (by omega), e4, setA_ne (by omega), e3, setA_at, e2, setA_ne (by omega)]
        have q302 : M9.1 302 k = putN 96 (M1.1 302 k) n (hol P bx bY) := by
          rw [e9, setI_ne (by omega), e8, setI_ne (by omega), e7, setI_ne (by omega), e6, setA_ne (by omega), e5, setA_ne (by omega), e4, setA_at, e3, setA_ne (by omega), e2, setA_ne (by omega)]
        have q303 : M9.1 303 k = putN 96 (M1.1 303 k) n (lb (PK f k) (cid (bx - hol P bx bY) bY)) := by
          rw [e9, setI_ne (by omega), e8, setI_ne (by omega), e7, setI_ne (by omega), e6, setA_ne (by omega), e5, setA_at, e4, setA_ne (by omega), e3, setA_ne (by omega), e2, setA_ne (by omega)]
        have q304 : M9.1 304 k = putN 96 (M1.1 304 k) n (cum ln1 (st n + m) - cum ln1 (st n)) := by
          rw [e9, setI_ne (by omega), e8, setI_ne (by omega), e7, setI_ne (by omega), e6, setA_at, e5, setA_ne (by omega), e4, setA_ne (by omega), e3, setA_ne (by omega), e2, setA_ne (by omega)]
        have qo : ∀ t, t = 305 ∨ t = 306 ∨ t = 307 ∨ t = 308 → M9.1 t k = M1.1 t k := by
          intro t ht
          rw [e9, setI_ne (by omega), e8, setI_ne (by omega), e7, setI_ne (by omega), e6, setA_ne (by omega), e5, setA_ne (by omega), e4, setA_ne (by omega), e3, setA_ne (by omega), e2, setA_ne (by omega)]
        have qj : M9.2 = M1.2 := by rw [e9, setI_2, e8, setI_2, e7, setI_2, e6, setA_2, e5, setA_2, e4, setA_2, e3, setA_2, e2, setA_2]
        have pk : PK f k = cp P := by show cp (lay f (2 * k + 1)) = _; rw [hP]
        refine hQ M9 st' xs1 ys1 ln1 hct' ⟨?_, ?_, fun i hi => ?_, fun c hc => ?_, ?_, ?_, ?_⟩ ?_ ?_ (fun x y ⟨j, j1, j2, j3⟩ => ?_) ?_
        · refine f4.tr ?_
          rw [e9, e8, e7, e6, e5]
          exact ((((Fx.setA ⟨by simp, rfl⟩).tr (Fx.setA ⟨by simp, rfl⟩)).tr (Fx.setI ⟨by simp, rfl⟩)).tr (Fx.setI ⟨by simp, rfl⟩)).tr (Fx.setI ⟨by simp, rfl⟩)
        · rw [qj, hs2]; exact p2
        · rw [hs2] at hi
          obtain ⟨s1, s2, s3, s4, s5⟩ := p3 i hi
          exact ⟨s1, by rw [qo 305 (by simp), s2], by rw [qo 306 (by simp), s3], by rw [qo 307 (by simp), s4], by rw [qo 308 (by simp), s5]⟩
        · by_cases e : c = n
          · subst e
            unfold ConC
            rw [hs1 c (Nat.le_refl c), hs2, v1, v2, q300, q301, q302, q303, q304, putN_at (by omega) rfl, putN_at (by omega) rfl, putN_at (by omega) rfl, putN_at (by omega) rfl, putN_at (by omega) rfl, pk]
            exact ⟨rfl, rfl, rfl, rfl, rfl⟩
          · obtain ⟨z1, z2, z3, z4, z5⟩ := p4 c (by omega)
            unfold ConC
            rw [hs1 c (by omega), hs1 (c + 1) (by omega), q300, q301, q302, q303, q304, putN_ne (by omega), putN_ne (by omega), putN_ne (by omega), putN_ne (by omega), putN_ne (by omega)]
            exact ⟨z1, z2, z3, z4, z5⟩
        · rw [t9, ups_ne (by omega), ups_ne (by omega), ups_at]; rfl
        · rw [t9, ups_ne (by omega), ups_at]
          show _ = sumN _ n + hol P (xs1 (st' n)) (ys1 (st' n))
          rw [hs1 n (Nat.le_refl n), v1, v2]
          congr 1
          exact sumN_congr (fun c hc => by rw [hs1 c (by omega)])
        · rw [t9, ups_ne (by omega), ups_ne (by omega), ups_ne (by omega), p7, hs2]
        · rw [t9, ups_ne (by omega), ups_ne (by omega), ups_ne (by omega), hs2]
          omega
        · rw [t9, ups_at, hs2]
          omega
        · rw [hs2]
          obtain ⟨w1, w2⟩ := hold j j1
          exact ⟨j, by omega, by rw [w1, j2], by rw [w2, j3]⟩
        · rw [hs2]
          exact ⟨st n, by omega, v1, v2⟩
      · -- one more side
        have hnew : m = 0 ∨ ¬ (qx = bx ∧ qy = bY) := by
          rcases Nat.eq_zero_or_pos m with z | z
          · exact Or.inl z
          · refine Or.inr fun e => h1 ?_
            rw [hop, if_pos ⟨z, e⟩]
        have hed := bn_lv hD hq
        obtain ⟨N, hN48, hN⟩ := RunN.ex hg hD hed
        obtain ⟨-, hNin⟩ := RunN.inn hg hD hed hN
        have in1 := hNin N (Nat.le_refl N)
        have sb := stepb hed.dir N hN48
        refine c205 hg hD (hBM M1 p1) hed hN ?_
        refine c204 hqi.1 hqi.2.1 hqi.2.2.1 hqi.2.2.2 (by omega) (by omega) p7 (by omega) fun M2 f2 q310 q305 q306 q307 q308 q2 => ⟨by omega, fun ar ear => ⟨⟨by omega, by omega⟩, fun nx enx => ⟨⟨by omega, by omega⟩, fun ny eny => ⟨by omega, ?_⟩⟩⟩⟩
        have f12 : Fx (TO k) M0 M2 := p1.tr (f2.up fun t j g => ⟨by rcases g.1 with h | h | h | h | h | h <;> simp [h], g.2⟩)
        rw [ar_four hg (hRepM M2 f12), enx, eny]
        intro b3 eb3 b4 eb4
        have hei := RunN.ei hD hed hN
        have hlv := ei_lv hei hN.2.2
        have q14 : M2.1 2 k 14 = M1.1 2 k 14 := by rw [q2, ups_ne (by omega)]
        have hfl : b3 = b2i (fl P (qx + N * stepXV (lvd P qx qy)) (qy + N * stepYV (lvd P qx qy))) := by
          rw [eb3]
          unfold fl
          by_cases g : four P (qx + N * stepXV (lvd P qx qy)) (qy + N * stepYV (lvd P qx qy)) = 1
          · rw [if_neg (fun h => h g), decide_eq_true g]; rfl
          · rw [if_pos g, decide_eq_false g]; rfl
        have eb4' : b4 = b3 := by
          rw [eb4, hfl]
          cases fl P (qx + N * stepXV (lvd P qx qy)) (qy + N * stepYV (lvd P qx qy)) <;> rfl
        have hb3 := hb2 (fl P (qx + N * stepXV (lvd P qx qy)) (qy + N * stepYV (lvd P qx qy)))
        have hbq := hb2 (fl P qx qy)
        have hbb := hb2 (fl P bx bY)
        rw [q14, eb4', hfl]
        refine ⟨by omega, fun M3 e3 b5 eb5 => ?_⟩
        have hdir := hed.dir
        have hb5 : b5 = 1 ∨ b5 = 3 := by
          rw [eb5]
          split
          · exact Or.inr rfl
          · exact Or.inl rfl
        refine ⟨by unfold Dir at hdir; omega, fun nd end' b6 eb6 => ⟨by omega, ?_⟩⟩
        have hnd : nd = lvd P (qx + N * stepXV (lvd P qx qy)) (qy + N * stepYV (lvd P qx qy)) := by
          have hian : ∀ d b : Int, Dir d → (b = 1 ∨ b = 3) → ian (d + b) 3 = (d + b) % 4 := by
            intro d b hd hb
            rcases hd with rfl | rfl | rfl | rfl <;> rcases hb with rfl | rfl <;> decide
          rw [end', hian _ _ hdir hb5, eb5]
          by_cases g : four P (qx + N * stepXV (lvd P qx qy)) (qy + N * stepYV (lvd P qx qy)) = 1
          · rw [hlv.1 g, if_neg]
            unfold fl
            rw [decide_eq_true g]
            decide
          · rw [hlv.2 g, if_pos]
            unfold fl
            rw [decide_eq_false g]
            rfl
        rw [hnd]
        obtain ⟨xs', hx1, hx2⟩ : ∃ xs' : Nat → Int, (∀ i, i < st n + m → xs' i = xs1 i) ∧ xs' (st n + m) = qx := ⟨ups xs1 (st n + m) qx, fun i hi => ups_ne (by omega), ups_at⟩
        obtain ⟨ys', hy1, hy2⟩ : ∃ ys' : Nat → Int, (∀ i, i < st n + m → ys' i = ys1 i) ∧ ys' (st n + m) = qy := ⟨ups ys1 (st n + m) qy, fun i hi => ups_ne (by omega), ups_at⟩
        obtain ⟨ln', hl1, hl2⟩ : ∃ ln' : Nat → Nat, (∀ i, i < st n + m → ln' i = ln1 i) ∧ ln' (st n + m) = N := ⟨fun i => if i = st n + m then N else ln1 i, fun i hi => if_neg (by omega), if_pos rfl⟩
        have cumc : ∀ u, u ≤ st n + m → cum ln' u = cum ln1 u := fun u hu => sumN_congr (fun i hi => by rw [hl1 i (by omega)])
        have w' := w.st hD hnew (fun i hi => ⟨hx1 i hi, hy1 i hi⟩) ⟨hx2, hy2⟩ (rx := qx + N * stepXV (lvd P qx qy)) (ry := qy + N * stepYV (lvd P qx qy)) ⟨N, hN, rfl, rfl⟩
        have t3 : M3.1 2 k = ups (ups (M1.1 2 k) 13 (((st n + m : Nat) : Int) + 1)) 14 (M1.1 2 k 14 + b2i (fl P (qx + N * stepXV (lvd P qx qy)) (qy + N * stepYV (lvd P qx qy)))) := by rw [e3, setI_at, q2]
        have tn : ∀ t, t ≠ 2 → M3.1 t k = M2.1 t k := fun t ht => by rw [e3, setI_ne (by omega)]
        have hstc : ∀ c, c < n → st c < st n := fun c hc => by
          have := w.1.mono (c := c + 1) (d := n) (by omega) (Nat.le_refl n)
          have := (w.1.2.1 c hc).1
          omega
        have hst1 : ∀ c, c < n → st (c + 1) ≤ st n := fun c hc => w.1.mono (c := c + 1) (d := n) (by omega) (Nat.le_refl n)
        have := ih (m + 1) xs' ys' ln' (qx + N * stepXV (lvd P qx qy)) (qy + N * stepYV (lvd P qx qy)) b6 M3 (by omega) w' ⟨?_, fun y hy x => ?_, fun i hi => ?_, fun c hc => ?_, ?_, ?_, ?_⟩ ?_ ?_ ?_ (fun i hi => ?_) (fun i hi => ?_)
        · have e1 : cum ln' (st n + (m + 1)) - cum ln' (st n) = ar := by
            rw [show st n + (m + 1) = st n + m + 1 by omega, cum_s, cumc _ (Nat.le_refl _), cumc (st n) (by omega), hl2, ear]
            omega
          rw [e1] at this
          exact this
        · exact f12.tr (by rw [e3]; exact Fx.setI ⟨by simp, rfl⟩)
        · have key : bJ (M3.2 310 k y) x = true ↔ (bJ (M1.2 310 k y) x = true ∧ ¬ ((x : Int) = qx ∧ (y : Int) = qy)) := by
            rw [e3, setI_2, q310]
            obtain ⟨a, rfl⟩ : ∃ a : Nat, qx = a := ⟨qx.toNat, by omega⟩
            obtain ⟨c, rfl⟩ : ∃ a : Nat, qy = a := ⟨qy.toNat, by omega⟩
            rw [Int.toNat_natCast]
            by_cases e : y = c
            · subst e
              rw [upj_at, bJ_and, bJ_xor, bJ_shl (by omega), bJ_1]
              by_cases hx64 : x < 64
              · rw [bJ_m1 hx64, decide_eq_true hx64]
                by_cases e2 : x = a
                · subst e2
                  rw [decide_eq_false (show ¬ x < x by omega), decide_eq_true (show x - x = 0 by omega)]
                  simp
                · have : (decide (x < 64) && (!decide (x < a) && decide (x - a = 0))) = false := by
                    by_cases e3 : x < a
                    · rw [decide_eq_true e3]; simp
                    · rw [decide_eq_false (show ¬ (x - a = 0) by omega)]; simp
                  rw [decide_eq_true hx64] at this
                  rw [this]
                  constructor
                  · intro h
                    rw [Bool.and_eq_true] at h
                    exact ⟨h.1, fun h => e2 (by omega)⟩
                  · rintro ⟨h, -⟩
                    rw [h]; rfl
              · have h64 : bJ (M1.2 310 k y) x = false := bJ_ge _ (by omega)
                rw [h64]
                simp
            · rw [upj_ne e]
              constructor
              · intro h
                exact ⟨h, fun h => e (by omega)⟩
              · rintro ⟨h, -⟩
                exact h
          rw [key, p2 y hy x]
          constructor
          · rintro ⟨⟨k1, k2, k3⟩, k4⟩
            refine ⟨k1, k2, fun j hj ⟨u1, u2⟩ => ?_⟩
            by_cases e : j = st n + m
            · subst e
              rw [hx2] at u1
              rw [hy2] at u2
              exact k4 ⟨u1.symm, u2.symm⟩
            · rw [hx1 j (by omega)] at u1
              rw [hy1 j (by omega)] at u2
              exact k3 j (by omega) ⟨u1, u2⟩
          · rintro ⟨k1, k2, k3⟩
            refine ⟨⟨k1, k2, fun j hj ⟨u1, u2⟩ => k3 j (by omega) ⟨by rw [hx1 j hj, u1], by rw [hy1 j hj, u2]⟩⟩, fun ⟨u1, u2⟩ => k3 (st n + m) (by omega) ⟨by rw [hx2, u1], by rw [hy2, u2]⟩⟩
        · unfold SideC
          rw [tn 305 (by omega), tn 306 (by omega), tn 307 (by omega), tn 308 (by omega), q305, q306, q307, q308]
          by_cases e : i = st n + m
          · subst e
            rw [hx2, hy2, hl2, putN_at (by omega) rfl, putN_at (by omega) rfl, putN_at (by omega) rfl, putN_at (by omega) rfl]
            exact ⟨hN, rfl, rfl, rfl, rfl⟩
          · rw [hx1 i (by omega), hy1 i (by omega), hl1 i (by omega), putN_ne (by omega), putN_ne (by omega), putN_ne (by omega), putN_ne (by omega)]
            exact p3 i (by omega)
        · obtain ⟨z1, z2, z3, z4, z5⟩ := p4 c hc
          have hc1 := hstc c hc
          have hc2 := hst1 c hc
          unfold ConC
          rw [tn 300 (by omega), tn 301 (by omega), tn 302 (by omega), tn 303 (by omega), tn 304 (by omega), (f2 300 k (by simp [T204])).1, (f2 301 k (by simp [T204])).1, (f2 302 k (by simp [T204])).1, (f2 303 k (by simp [T204])).1, (f2 304 k (by simp [T204])).1, hx1 _ (by omega), hy1 _ (by omega), cumc _ (by omega), cumc _ (by omega)]
          exact ⟨z1, z2, z3, z4, z5⟩
        · rw [t3, ups_ne (by omega), ups_ne (by omega), p5]
        · rw [t3, ups_ne (by omega), ups_ne (by omega), p6]
          exact sumN_congr (fun c hc => by
            have := hstc c hc
            rw [hx1 _ (by omega), hy1 _ (by omega)])
        · rw [t3, ups_ne (by omega), ups_at]; rfl
        · rw [t3, ups_at]
          have e1 : cntB (fun j => fl P (xs' j) (ys' j)) (st n + (m + 1)) = cntB (fun j => fl P (xs1 j) (ys1 j)) (st n + m) + (bif fl P qx qy then 1 else 0) := by
            show cntB (fun j => fl P (xs' j) (ys' j)) (st n + m) + (bif fl P (xs' (st n + m)) (ys' (st n + m)) then 1 else 0) = _
            rw [hx2, hy2]
            congr 1
            exact cntB_congr (fun j hj => by rw [hx1 j hj, hy1 j hj])
          rw [e1]
          have e2 : ((bif fl P qx qy then 1 else 0 : Nat) : Int) = b2i (fl P qx qy) := by cases fl P qx qy <;> rfl
          rw [Int.natCast_add, e2]
          omega
        · rw [t3, ups_ne (by omega), ups_ne (by omega), c15, cumc _ (by omega)]
        · rw [eb6]
          by_cases g : qx + N * stepXV (lvd P qx qy) = bx
          · by_cases g2 : qy + N * stepYV (lvd P qx qy) = bY
            · rw [if_neg (fun h => h g), if_pos g2, if_pos ⟨by omega, g, g2⟩]
            · rw [if_neg (fun h => h g), if_neg g2, if_neg (fun h => g2 h.2.2)]
          · rw [if_pos g, if_neg (fun h => g h.2.1)]
        · rw [hx1 i (by omega), hy1 i (by omega)]
          exact hold i hi
        · by_cases e : i = st n + m
          · subst e; rw [hl2]; exact hN48
          · rw [hl1 i (by omega)]; exact hln i (by omega)
  have w0 := Cw.z hct hb hu hl
  have hsl : ∀ i, i < st n → ln i ≤ 48 := fun i hi => (RunN.inn hg hD (bn_lv hD (hct.bend hi)) (o3 i hi).1).1
  have hst : st n ≤ 312 := by
    have := hwle xs ys bx bY 0 w0
    omega
  have := loop (313 - st n) 0 xs ys ln bx bY 1 M (by omega) w0 hoc (by rw [h14]; rfl) h15 (by rw [if_neg (fun h => absurd h.1 (Nat.lt_irrefl 0))]) (fun i _ => ⟨rfl, rfl⟩) hsl
  rw [show cum ln (st n + 0) - cum ln (st n) = 0 by rw [Nat.add_zero]; omega] at this
  exact this

/-! the reference's contours -/
theorem cr_bn (a b c d : Bool) : crV (b2i a) (b2i b) (b2i c) (b2i d) = b2i ((a ^^ b) ^^ (c ^^ d)) := by
  cases a <;> cases b <;> cases c <;> cases d <;> decide
/-- whether a contour that begins here is that of a hole -/
def hol (P : Int → Int → Bool) (x y : Int) : Int := if lvd P x y ≠ 1 then 0 else 1
def TC (t j : Nat) : Prop := (t = 1124 ∨ t = 1125 ∨ t = 1126 ∨ t = 1127 ∨ t = 1128 ∨ t = 1129) ∧ j = 0
/-- the reference's lists of a phase, n contours of them, T points -/
def MA (M0 M : Mm) (p : Nat) (P : Int → Int → Bool) (n T : Nat) (st : Nat → Nat) (xs ys : Nat → Int) : Prop := Fx TC M0 M ∧ (∀ c, c < n → M.1 1125 0 (161 * p + c) = st c ∧ M.1 1126 0 (160 * p + c) = hol P (xs (st c)) (ys (st c))) ∧ (∀ i, i < T → M.1 1127 0 (640 * p + i) = xs i ∧ M.1 1128 0 (640 * p + i) = ys i) ∧ (∀ q, q < 2401 → (M.1 1129 0 q = 1 ∧ ∃ j, j < T ∧ kxy (xs j) (ys j) = q) ∨ (M.1 1129 0 q = 0 ∧ ∀ j, j < T → kxy (xs j) (ys j) ≠ q)) ∧ (M.1 1124 0 = M0.1 1124 0) ∧ (∀ r, r < 161 * p → M.1 1125 0 r = M0.1 1125 0 r) ∧ (∀ r, r < 160 * p → M.1 1126 0 r = M0.1 1126 0 r) ∧ (∀ r, r < 640 * p → M.1 1127 0 r = M0.1 1127 0 r ∧ M.1 1128 0 r = M0.1 1128 0 r)
theorem c1034 {p : Nat} {f : Nat → Int} {M : Mm} {Q : Mm → Prop} (hp : p < 12) (hR : PhR M f p)
    (hQ : ∀ M' n st xs ys, Fx TC M M' → Cf (lay f (2 * p + 1)) n st xs ys → M'.1 1124 0 p = n → (∀ c, c ≤ n → M'.1 1125 0 (161 * p + c) = st c) → (∀ c, c < n → M'.1 1126 0 (160 * p + c) = hol (lay f (2 * p + 1)) (xs (st c)) (ys (st c))) → (∀ i, i < st n → M'.1 1127 0 (640 * p + i) = xs i ∧ M'.1 1128 0 (640 * p + i) = ys i) → (∀ r, r ≠ p → M'.1 1124 0 r = M.1 1124 0 r) → (∀ r, r < 161 * p → M'.1 1125 0 r = M.1 1125 0 r) → (∀ r, r < 160 * p → M'.1 1126 0 r = M.1 1126 0 r) → (∀ r, r < 640 * p → M'.1 1127 0 r = M.1 1127 0 r ∧ M'.1 1128 0 r = M.1 1128 0 r) → Q M') : E_1034 (p : Int) M Q := by
  refine s_1034_0 ?_
  have hg := lay_g f (2 * p + 1)
  have hD := pk_nod f p
  have hle := fun n st xs ys => Ct.le (f := f) (k := p) (n := n) (st := st) (xs := xs) (ys := ys)
  have hwle := fun n st xs ys bx bY qx qy m => Cw.le (f := f) (k := p) (n := n) (st := st) (xs := xs) (ys := ys) (bx := bx) (bY := bY) (qx := qx) (qy := qy) (m := m)
  have h78 := fun n st xs ys => Ct.n78 (f := f) (k := p) (n := n) (st := st) (xs := xs) (ys := ys)
  have isP : ∀ M', Fx TC M M' → ∀ x y : Int, isV (M'.2 1116 0) (p : Int) x y = b2i (lay f (2 * p + 1) x y) := by
    intro M' g
    refine isV_P hg fun y hy x => ?_
    rw [(g 1116 0 (by simp [TC])).2]
    exact hR y hy x
  generalize hP : lay f (2 * p + 1) = P at *
  have corner : ∀ M', Fx TC M M' → ∀ x y : Int, crV (isV (M'.2 1116 0) (p : Int) (x - 1) (y - 1)) (isV (M'.2 1116 0) (p : Int) x (y - 1)) (isV (M'.2 1116 0) (p : Int) (x - 1) y) (isV (M'.2 1116 0) (p : Int) x y) = b2i (bn P x y) := by
    intro M' g x y
    rw [isP M' g, isP M' g, isP M' g, isP M' g, cr_bn]
    rfl
  have way : ∀ M', Fx TC M M' → ∀ x y : Int, lvV (isV (M'.2 1116 0) (p : Int) (x - 1) (y - 1)) (isV (M'.2 1116 0) (p : Int) x (y - 1)) (isV (M'.2 1116 0) (p : Int) (x - 1) y) (isV (M'.2 1116 0) (p : Int) x y) = lvd P x y := by
    intro M' g x y
    rw [isP M' g, isP M' g, isP M' g, isP M' g]
    rfl
  -- nothing seen
  have clr := lp_up (P := fun i => ∀ M', (Fx TC M M' ∧ (∀ x, x < i → M'.1 1129 0 x = 0) ∧ M'.1 1124 0 = M.1 1124 0 ∧ M'.1 1125 0 = M.1 1125 0 ∧ M'.1 1126 0 = M.1 1126 0 ∧ M'.1 1127 0 = M.1 1127 0 ∧ M'.1 1128 0 = M.1 1128 0) → L_1034_2 (p : Int) (i : Int) M' Q) 2401 ?_ ?_
  · exact clr M ⟨Fx.rf, fun x hx => absurd hx (Nat.not_lt_zero x), rfl, rfl, rfl, rfl, rfl⟩
  · intro i hi ih M1 ⟨h1, h2, h3, h4, h5, h6, h7⟩
    refine s_1034_2 ⟨fun g => by omega, fun _ => ⟨by omega, fun M2 e => ⟨by omega, ih M2 ⟨h1.tr (by rw [e]; exact Fx.setI ⟨by simp, rfl⟩), fun x hx => ?_, ?_, ?_, ?_, ?_, ?_⟩⟩⟩⟩
    all_goals (rw [Int.toNat_natCast] at e)
    · rw [e, setI_at]
      by_cases g : x = i
      · subst g; rw [ups_at]
      · rw [ups_ne (by omega)]; exact h2 x (by omega)
    · rw [e, setI_ne (by omega)]; exact h3
    · rw [e, setI_ne (by omega)]; exact h4
    · rw [e, setI_ne (by omega)]; exact h5
    · rw [e, setI_ne (by omega)]; exact h6
    · rw [e, setI_ne (by omega)]; exact h7
  intro M1 ⟨h1, h2, h3, h4, h5, h6, h7⟩
  refine s_1034_2 ⟨fun _ => ?_, fun g => by omega⟩
  have key : ∀ (s κ n : Nat) (st : Nat → Nat) (xs ys : Nat → Int) (M' : Mm), κ + s = 2401 → Ct P n st xs ys → (∀ x y, bn P x y = true → kxy x y < κ → ∃ j, j < st n ∧ xs j = x ∧ ys j = y) → MA M M' p P n (st n) st xs ys → L_1034_29 (p : Int) (n : Int) (st n : Int) (κ : Int) M' Q := by
    intro s
    induction s with
    | zero =>
      intro κ n st xs ys M2 hκ g1 g2 g3
      have e : κ = 2401 := by omega
      subst e
      obtain ⟨a1, a2, a3, a4, a5, a6, a7, a8⟩ := g3
      have b1 := hle n st xs ys g1
      have b2 := h78 n st xs ys g1
      refine s_1034_29 ⟨fun _ => ⟨by omega, fun M3 e3 => ⟨by omega, fun M4 e4 => ?_⟩⟩, fun g => by omega⟩
      rw [Int.toNat_natCast] at e3
      rw [show (161 * (p : Int) + (n : Int)).toNat = 161 * p + n by omega] at e4
      have q25 : M4.1 1125 0 = ups (M2.1 1125 0) (161 * p + n) (st n : Int) := by rw [e4, setI_at, e3, setI_ne (by omega)]
      refine hQ M4 n st xs ys (a1.tr (by rw [e4, e3]; exact (Fx.setI ⟨by simp, rfl⟩).tr (Fx.setI ⟨by simp, rfl⟩))) ⟨g1, fun x y hb => g2 x y hb (by have := bn_in hg hb; unfold kxy; omega)⟩ ?_ (fun c hc => ?_) (fun c hc => ?_) (fun i hi => ?_) (fun r hr => ?_) (fun r hr => ?_) (fun r hr => ?_) (fun r hr => ?_)
      · rw [e4, setI_ne (by omega), e3, setI_at, ups_at]
      · rw [q25]
        by_cases e : c = n
        · subst e; rw [ups_at]
        · rw [ups_ne (by omega)]; exact (a2 c (by omega)).1
      · rw [e4, setI_ne (by omega), e3, setI_ne (by omega)]; exact (a2 c hc).2
      · rw [e4, setI_ne (by omega), e3, setI_ne (by omega), setI_ne (by omega), setI_ne (by omega)]; exact a3 i hi
      · rw [e4, setI_ne (by omega), e3, setI_at, ups_ne hr, a5]
      · rw [q25, ups_ne (by omega)]; exact a6 r hr
      · rw [e4, setI_ne (by omega), e3, setI_ne (by omega)]; exact a7 r hr
      · rw [e4, setI_ne (by omega), e3, setI_ne (by omega), setI_ne (by omega), setI_ne (by omega)]; exact a8 r hr
    | succ s ih =>
      intro κ n st xs ys M2 hκ g1 g2 g3
      obtain ⟨a1, a2, a3, a4, a5, a6, a7, a8⟩ := id g3
      have b1 := hle n st xs ys g1
      have b2 := h78 n st xs ys g1
      refine s_1034_29 ⟨fun g => by omega, fun _ => ⟨by omega, fun d ed => ⟨by omega, fun d1 ed1 => ⟨by omega, ?_⟩⟩⟩⟩
      rw [tmod_p (by omega)] at ed
      rw [tdiv_p (by omega)] at ed1
      rw [Int.toNat_natCast]
      have hk : kxy d d1 = κ := by unfold kxy; omega
      have hd : 0 ≤ d ∧ d ≤ 48 ∧ 0 ≤ d1 ∧ d1 ≤ 48 := by omega
      have skip : (bn P d d1 = true → ∃ j, j < st n ∧ xs j = d ∧ ys j = d1) → L_1034_29 (p : Int) (n : Int) (st n : Int) ((κ : Int) + 1) M2 Q := by
        intro hs
        refine ih (κ + 1) n st xs ys M2 (by omega) g1 (fun x y hb hlt => ?_) g3
        by_cases e : kxy x y = κ
        · have hx := bn_in hg hb
          obtain ⟨e1, e2⟩ := kxy_inj ⟨hx.1, hx.2.1⟩ ⟨hd.1, hd.2.1⟩ (e.trans hk.symm)
          rw [e1, e2] at hb ⊢
          exact hs hb
        · exact g2 x y hb (by omega)
      refine ⟨fun hsn => ⟨by omega, skip fun hb => ?_⟩, fun hz => ⟨by omega, ?_⟩⟩
      · rcases a4 κ (by omega) with ⟨-, j, j1, j2⟩ | ⟨k, -⟩
        · have hx := bn_in hg (g1.bend j1)
          obtain ⟨e1, e2⟩ := kxy_inj ⟨hx.1, hx.2.1⟩ ⟨hd.1, hd.2.1⟩ (j2.trans hk.symm)
          exact ⟨j, j1, e1, e2⟩
        · exact absurd k hsn
      · rw [corner M2 a1, b2i_n, b2i_0]
        refine ⟨fun hb => ⟨by omega, fun M3 e3 => ⟨by omega, ?_⟩⟩, fun hb => ⟨by omega, skip fun h => by rw [hb] at h; cases h⟩⟩
        rw [show (161 * (p : Int) + (n : Int)).toNat = 161 * p + n by omega] at e3
        have f3 : Fx TC M M3 := a1.tr (by rw [e3]; exact Fx.setI ⟨by simp, rfl⟩)
        rw [way M3 f3]
        refine ⟨by omega, fun b eb => ⟨by omega, fun M4 e4 => ?_⟩⟩
        rw [show (160 * (p : Int) + (n : Int)).toNat = 160 * p + n by omega] at e4
        have f4 : Fx TC M M4 := f3.tr (by rw [e4]; exact Fx.setI ⟨by simp, rfl⟩)
        have q25 : M4.1 1125 0 = ups (M2.1 1125 0) (161 * p + n) (st n : Int) := by rw [e4, setI_ne (by omega), e3, setI_at]
        have q26 : M4.1 1126 0 = ups (M2.1 1126 0) (160 * p + n) b := by rw [e4, setI_at, e3, setI_ne (by omega)]
        have qo : ∀ t, t ≠ 1125 → t ≠ 1126 → M4.1 t 0 = M2.1 t 0 := fun t t1 t2 => by rw [e4, setI_ne (by omega), e3, setI_ne (by omega)]
        have hb' : b = hol P d d1 := eb
        have unseen : ∀ j, j < st n → ¬ (xs j = d ∧ ys j = d1) := by
          intro j hj ⟨e1, e2⟩
          rcases a4 κ (by omega) with ⟨k, -⟩ | ⟨-, k⟩
          · omega
          · exact k j hj (by rw [e1, e2, hk])
        have w0 : Cw P n st xs ys d d1 0 d d1 := Cw.z g1 hb unseen (fun x y hbn hlt => g2 x y hbn (by omega))
        have m0 : MA M M4 p P n (st n + 0) st xs ys := by
          refine ⟨f4, fun c hc => ?_, fun i hi => ?_, fun q hq => ?_, by rw [qo 1124 (by omega) (by omega), a5], fun r hr => ?_, fun r hr => ?_, fun r hr => ?_⟩
          · rw [q25, q26, ups_ne (by omega), ups_ne (by omega)]; exact a2 c hc
          · rw [qo 1127 (by omega) (by omega), qo 1128 (by omega) (by omega)]; exact a3 i (by omega)
          · rw [qo 1129 (by omega) (by omega)]; exact a4 q hq
          · rw [q25, ups_ne (by omega)]; exact a6 r hr
          · rw [q26, ups_ne (by omega)]; exact a7 r hr
          · rw [qo 1127 (by omega) (by omega), qo 1128 (by omega) (by omega)]; exact a8 r hr
        -- along the contour
        have walk : ∀ (t m : Nat) (xs ys : Nat → Int) (qx qy : Int) (M' : Mm), st n + m + t = 313 → Cw P n st xs ys d d1 m qx qy → MA M M' p P n (st n + m) st xs ys → M'.1 1125 0 (161 * p + n) = st n → M'.1 1126 0 (160 * p + n) = hol P d d1 → L_1034_119 (p : Int) (n : Int) ((st n + m : Nat) : Int) (κ : Int) qx qy M' Q := by
          intro t
          induction t with
          | zero =>
            intro m xs ys qx qy M5 ht w _ _ _
            have := hwle n st xs ys d d1 qx qy m w
            omega
          | succ t iht =>
            intro m xs ys qx qy M5 ht w ma r25 r26
            have hT := hwle n st xs ys d d1 qx qy m w
            have hq := w.2.2.2.2.2.2.2.1
            have hqi := bn_in hg hq
            obtain ⟨c1, c2, c3, c4, c5, c6, c7, c8⟩ := id ma
            obtain ⟨κq, hκq⟩ : ∃ κq : Nat, kxy qx qy = κq := ⟨(kxy qx qy).toNat, by unfold kxy; omega⟩
            have hκ2 : κq < 2401 := by unfold kxy at hκq; omega
            have eidx : (49 * qy + qx).toNat = κq := by unfold kxy at hκq; omega
            refine s_1034_119 ⟨by omega, ?_⟩
            rw [eidx]
            refine ⟨fun hseen => ⟨by omega, ?_⟩, fun hun => ⟨by omega, fun M6 e6 => ⟨by omega, fun M7 e7 => ⟨by omega, fun M8 e8 => ⟨by omega, by omega, ?_⟩⟩⟩⟩⟩
            · -- closed
              have hcl : 0 < m ∧ qx = d ∧ qy = d1 := by
                have hn : ¬ (m = 0 ∨ ¬ (qx = d ∧ qy = d1)) := fun h0 => by
                  have := w.nw hD h0
                  rcases c4 κq hκ2 with ⟨-, j, j1, j2⟩ | ⟨k, -⟩
                  · have hjb : bn P (xs j) (ys j) = true := by
                      by_cases g : j < st n
                      · exact w.1.bend g
                      · exact w.2.2.2.2.1 j (by omega) j1
                    have hx := bn_in hg hjb
                    obtain ⟨e1, e2⟩ := kxy_inj ⟨hx.1, hx.2.1⟩ ⟨hqi.1, hqi.2.1⟩ (j2.trans hκq.symm)
                    exact this j j1 ⟨e1, e2⟩
                  · exact hseen k
                refine ⟨?_, ?_⟩
                · rcases Nat.eq_zero_or_pos m with h0 | h0
                  · exact absurd (Or.inl h0) hn
                  · exact h0
                · exact Classical.byContradiction fun h => hn (Or.inr h)
              obtain ⟨hm, e1, e2⟩ := hcl
              rw [e1, e2] at w
              obtain ⟨st', hs1, hs2⟩ : ∃ st' : Nat → Nat, (∀ c, c ≤ n → st' c = st c) ∧ st' (n + 1) = st n + m := ⟨fun c => if c = n + 1 then st n + m else st c, fun c hc => if_neg (by omega), if_pos rfl⟩
              have hct := w.fin hm hs1 hs2
              have := ih (κ + 1) (n + 1) st' xs ys M5 (by omega) hct (fun x y hb hlt => ?_) ⟨c1, fun c hc => ?_, by rw [hs2]; exact c3, by rw [hs2]; exact c4, c5, c6, c7, c8⟩
              · rw [hs2] at this
                exact this
              · rw [hs2]
                by_cases e : kxy x y = κ
                · have hx := bn_in hg hb
                  obtain ⟨u1, u2⟩ := kxy_inj ⟨hx.1, hx.2.1⟩ ⟨hd.1, hd.2.1⟩ (e.trans hk.symm)
                  obtain ⟨v1, v2⟩ := w.2.2.2.1 hm
                  exact ⟨st n, by omega, by rw [v1, u1], by rw [v2, u2]⟩
                · obtain ⟨j, j1, j2⟩ := w.2.1.2.2 x y hb (by omega)
                  exact ⟨j, by omega, j2⟩
              · by_cases e : c = n
                · subst e
                  obtain ⟨v1, v2⟩ := w.2.2.2.1 hm
                  rw [hs1 c (Nat.le_refl c), v1, v2]
                  exact ⟨r25, r26⟩
                · rw [hs1 c (by omega)]
                  exact c2 c (by omega)
            · -- a new point
              have hnew : m = 0 ∨ ¬ (qx = d ∧ qy = d1) := by
                rcases Nat.eq_zero_or_pos m with h0 | h0
                · exact Or.inl h0
                · refine Or.inr fun ⟨e1, e2⟩ => ?_
                  obtain ⟨v1, v2⟩ := w.2.2.2.1 h0
                  rcases c4 κq hκ2 with ⟨k, -⟩ | ⟨-, k⟩
                  · omega
                  · exact k (st n) (by omega) (by rw [v1, v2, ← e1, ← e2, hκq])
              rw [show (640 * (p : Int) + ((st n + m : Nat) : Int)).toNat = 640 * p + (st n + m) by omega] at e7 e8
              have q29 : M8.1 1129 0 = ups (M5.1 1129 0) κq 1 := by rw [e8, setI_ne (by omega), e7, setI_ne (by omega), e6, setI_at]
              have q27 : M8.1 1127 0 = ups (M5.1 1127 0) (640 * p + (st n + m)) qx := by rw [e8, setI_ne (by omega), e7, setI_at, e6, setI_ne (by omega)]
              have q28 : M8.1 1128 0 = ups (M5.1 1128 0) (640 * p + (st n + m)) qy := by rw [e8, setI_at, e7, setI_ne (by omega), e6, setI_ne (by omega)]
              have qo8 : ∀ t, t ≠ 1127 → t ≠ 1128 → t ≠ 1129 → M8.1 t 0 = M5.1 t 0 := fun t t1 t2 t3 => by rw [e8, setI_ne (by omega), e7, setI_ne (by omega), e6, setI_ne (by omega)]
              have f8 : Fx TC M M8 := c1.tr (by rw [e8, e7, e6]; exact ((Fx.setI ⟨by simp, rfl⟩).tr (Fx.setI ⟨by simp, rfl⟩)).tr (Fx.setI ⟨by simp, rfl⟩))
              rw [way M8 f8]
              intro x7 e77
              rw [e77]
              have hed := bn_lv hD hq
              obtain ⟨N, hN48, hN⟩ := RunN.ex hg hD hed
              obtain ⟨-, hNin⟩ := RunN.inn hg hD hed hN
              obtain ⟨xs', hx1, hx2⟩ : ∃ xs' : Nat → Int, (∀ i, i < st n + m → xs' i = xs i) ∧ xs' (st n + m) = qx := ⟨ups xs (st n + m) qx, fun i hi => ups_ne (by omega), ups_at⟩
              obtain ⟨ys', hy1, hy2⟩ : ∃ ys' : Nat → Int, (∀ i, i < st n + m → ys' i = ys i) ∧ ys' (st n + m) = qy := ⟨ups ys (st n + m) qy, fun i hi => ups_ne (by omega), ups_at⟩
              have w' := w.st hD hnew (fun i hi => ⟨hx1 i hi, hy1 i hi⟩) ⟨hx2, hy2⟩ (rx := qx + N * stepXV (lvd P qx qy)) (ry := qy + N * stepYV (lvd P qx qy)) ⟨N, hN, rfl, rfl⟩
              have ma' : MA M M8 p P n (st n + (m + 1)) st xs' ys' := by
                refine ⟨f8, fun c hc => ?_, fun i hi => ?_, fun q hq2 => ?_, by rw [qo8 1124 (by omega) (by omega) (by omega), c5], fun r hr => by rw [qo8 1125 (by omega) (by omega) (by omega)]; exact c6 r hr, fun r hr => by rw [qo8 1126 (by omega) (by omega) (by omega)]; exact c7 r hr, fun r hr => ?_⟩
                · have hlt : st c < st n := by
                    have := w.1.mono (c := c + 1) (d := n) (by omega) (Nat.le_refl n)
                    have := (w.1.2.1 c hc).1
                    omega
                  rw [qo8 1125 (by omega) (by omega) (by omega), qo8 1126 (by omega) (by omega) (by omega), hx1 _ (by omega), hy1 _ (by omega)]
                  exact c2 c hc
                · rw [q27, q28]
                  by_cases e : i = st n + m
                  · subst e; rw [ups_at, ups_at, hx2, hy2]; exact ⟨rfl, rfl⟩
                  · rw [ups_ne (by omega), ups_ne (by omega), hx1 i (by omega), hy1 i (by omega)]
                    exact c3 i (by omega)
                · rw [q29]
                  by_cases e : q = κq
                  · subst e
                    rw [ups_at]
                    exact Or.inl ⟨rfl, st n + m, by omega, by rw [hx2, hy2]; exact hκq⟩
                  · rw [ups_ne e]
                    rcases c4 q hq2 with ⟨k, j, j1, j2⟩ | ⟨k, k2⟩
                    · exact Or.inl ⟨k, j, by omega, by rw [hx1 j j1, hy1 j j1]; exact j2⟩
                    · refine Or.inr ⟨k, fun j hj => ?_⟩
                      by_cases ej : j = st n + m
                      · subst ej; rw [hx2, hy2, hκq]; omega
                      · rw [hx1 j (by omega), hy1 j (by omega)]; exact k2 j (by omega)
                · rw [q27, q28, ups_ne (by omega), ups_ne (by omega)]; exact c8 r hr
              have r25' : M8.1 1125 0 (161 * p + n) = st n := by rw [qo8 1125 (by omega) (by omega) (by omega)]; exact r25
              have r26' : M8.1 1126 0 (160 * p + n) = hol P d d1 := by rw [qo8 1126 (by omega) (by omega) (by omega)]; exact r26
              -- step by step to the next bend
              have steps : ∀ (u j : Nat), j + u = N → 0 < u → L_1034_191 (p : Int) (n : Int) (((st n + m : Nat) : Int) + 1) (κ : Int) (qx + j * stepXV (lvd P qx qy)) (qy + j * stepYV (lvd P qx qy)) (lvd P qx qy) M8 Q := by
                intro u
                induction u with
                | zero => intro j _ h; exact absurd h (Nat.lt_irrefl 0)
                | succ u ihu =>
                  intro j hj _
                  have in1 := hNin j (by omega)
                  have in2 := hNin (j + 1) (by omega)
                  have hdir := hed.dir
                  have ex : qx + (j : Int) * stepXV (lvd P qx qy) + stepXV (lvd P qx qy) = qx + ((j + 1 : Nat) : Int) * stepXV (lvd P qx qy) := by rw [Int.natCast_add, Int.add_mul]; omega
                  have ey : qy + (j : Int) * stepYV (lvd P qx qy) + stepYV (lvd P qx qy) = qy + ((j + 1 : Nat) : Int) * stepYV (lvd P qx qy) := by rw [Int.natCast_add, Int.add_mul]; omega
                  refine s_1034_191 fun b eb => ?_
                  have eb' : b = stepXV (lvd P qx qy) := by
                    rw [eb]
                    rcases hdir with h | h | h | h <;> rw [h] <;> rfl
                  rw [eb', ex]
                  refine ⟨by omega, fun x5 e5 b1 eb1 => ?_⟩
                  have eb1' : b1 = stepYV (lvd P qx qy) := by
                    rw [eb1]
                    rcases hdir with h | h | h | h <;> rw [h] <;> rfl
                  rw [eb1', ey]
                  refine ⟨by omega, fun x6 e6' => ?_⟩
                  rw [e5, e6', corner M8 f8, b2i_0, b2i_n]
                  refine ⟨by omega, fun hno => ?_, fun hyes => ?_⟩
                  · have : 0 < u := by
                      rcases Nat.eq_zero_or_pos u with h0 | h0
                      · have e : j + 1 = N := by omega
                        rw [e, hN.2.2] at hno
                        cases hno
                      · exact h0
                    exact ihu (j + 1) (by omega) this
                  · have e : j + 1 = N := by
                      rcases Nat.lt_or_ge (j + 1) N with h0 | h0
                      · rw [hN.2.1 (j + 1) (by omega) h0] at hyes
                        cases hyes
                      · omega
                    rw [e]
                    exact iht (m + 1) xs' ys' _ _ M8 (by omega) w' ma' r25' r26'
              have := steps N 0 (by omega) hN.1
              rw [show qx + ((0 : Nat) : Int) * stepXV (lvd P qx qy) = qx by simp, show qy + ((0 : Nat) : Int) * stepYV (lvd P qx qy) = qy by simp] at this
              exact this
        exact walk (313 - st n) 0 xs ys d d1 M4 (by omega) w0 m0 (by rw [q25, ups_at]) (by rw [q26, ups_at, hb'])
  have h0 : Ct P 0 (fun _ => 0) (fun _ => 0) (fun _ => 0) := ⟨rfl, fun c hc => absurd hc (Nat.not_lt_zero c), fun i j hi => absurd hi (Nat.not_lt_zero i)⟩
  exact key 2401 0 0 (fun _ => 0) (fun _ => 0) (fun _ => 0) M1 rfl h0 (fun x y hb hlt => by have := bn_in hg hb; unfold kxy at hlt; omega) ⟨h1, fun c hc => absurd hc (Nat.not_lt_zero c), fun i hi => absurd hi (Nat.not_lt_zero i), fun q hq => Or.inr ⟨h2 q hq, fun j hj => absurd hj (Nat.not_lt_zero j)⟩, h3, fun r _ => by rw [h4], fun r _ => by rw [h5], fun r _ => by rw [h6, h7]; exact ⟨rfl, rfl⟩⟩

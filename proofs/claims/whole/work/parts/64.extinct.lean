/-! extinction by the reference; lengths; the contour of a side -/
theorem Mds.sz {M : Mm} {p c : Nat} {P : Int → Int → Bool} (h : Mds M p P) (hc : c < vN P) : szV (M.1 1125 0) (p : Int) (c : Int) = ((vS P (c + 1) - vS P c : Nat) : Int) ∧ vS P c < vS P (c + 1) ∧ vS P (c + 1) ≤ vE P := by
  have h0 := (h.1.1.1.2.1 c hc).1
  have h1 : vS P (c + 1) ≤ vE P := h.1.1.1.mono (c := c + 1) (d := vN P) (by omega) (Nat.le_refl _)
  refine ⟨?_, h0, h1⟩
  unfold szV stV
  rw [show (161 * (p : Int) + ((c : Int) + 1)).toNat = 161 * p + (c + 1) by omega, show (161 * (p : Int) + (c : Int)).toNat = 161 * p + c by omega, h.2.1.2.1 (c + 1) (by omega), h.2.1.2.1 c (by omega)]
  omega
theorem c1047 {e N : Nat} {f : Nat → Int} {M : Mm} {Q : Int → Mm → Prop} (h18 : M.1 10 0 18 = N) (h12 : N ≤ 12) (hM : ∀ p, p < N → Mds M p (lay f (2 * p + 1))) (hg : EG (lay f 1)) (hE : Edm M (lay f 1)) (he : e < vE (lay f 1)) (hQ : ∀ M', R10 S30 M M' → Q (prf (drB f e) N) M') : E_1047 (e : Int) M Q := by
  refine s_1047_0 ?_
  have key : ∀ (s p : Nat) (M' : Mm), p + s = N → R10 S30 M M' → prf (drB f e) p = p → L_1047_2 (e : Int) (p : Int) M' Q := by
    intro s
    induction s with
    | zero =>
      intro p M' hp r h
      refine s_1047_2 ⟨fun _ => ?_, fun h => by rw [r.2 18 (by unfold S30; omega)] at h; omega⟩
      have := hQ M' r
      rw [show N = p by omega, h] at this
      rw [r.2 18 (by unfold S30; omega), h18, show N = p by omega]
      exact this
    | succ s ihp =>
      intro p M' hp r h
      refine s_1047_2 ⟨fun h => by rw [r.2 18 (by unfold S30; omega)] at h; omega, fun _ => ?_⟩
      have hMp := hM p (by omega)
      have hP := Sok.of hMp.1
      have h78 := hP.2.2.1
      have hfin : ∀ (M2 : Mm) (x3 : Int), R10 S30 M M2 → (x3 ≠ 0 → 0 < drN (lay f 1) (lay f (2 * p + 1)) (2 * p + 1) e (vE (lay f (2 * p + 1)))) → (x3 = 0 → drN (lay f 1) (lay f (2 * p + 1)) (2 * p + 1) e (vE (lay f (2 * p + 1))) = 0) → (x3 ≠ 0 → (((-2147483648 ≤ (p : Int) + 1 ∧ (p : Int) + 1 ≤ 2147483647)) ∧ (L_1047_2 e ((p : Int) + 1) M2 Q))) ∧ (x3 = 0 → (Q p M2)) := by
        intro M2 x3 r2 g1 g2
        refine ⟨fun hx => ⟨by omega, ihp (p + 1) M2 (by omega) r2 (prf_s h (decide_eq_true (g1 hx)))⟩, fun hx => ?_⟩
        have := prf_e h (show drB f e p = false from decide_eq_false (by rw [g2 hx]; omega)) (s + 1)
        rw [hp] at this
        have q := hQ M2 r2
        rw [this] at q
        exact q
      have h15 : ∀ (s c : Nat) (x3 : Int) (M2 : Mm), c + s = vN (lay f (2 * p + 1)) → R10 S30 M M2 → (x3 ≠ 0 → 0 < drN (lay f 1) (lay f (2 * p + 1)) (2 * p + 1) e (vE (lay f (2 * p + 1)))) → (x3 = 0 → drN (lay f 1) (lay f (2 * p + 1)) (2 * p + 1) e (vS (lay f (2 * p + 1)) c) = 0) → L_1047_15 (e : Int) (p : Int) x3 (c : Int) M2 Q := by
        intro s
        induction s with
        | zero =>
          intro c x3 M2 hc r2 g1 g2
          have m2 := hMp.r10 r2
          refine s_1047_15 ⟨by omega, fun _ => ?_, fun hlt => ?_⟩
          · refine hfin M2 x3 r2 g1 fun hx => ?_
            have := g2 hx
            rw [show c = vN (lay f (2 * p + 1)) by omega] at this
            exact this
          · rw [Int.toNat_natCast, m2.2.1.1] at hlt; omega
        | succ s ihc =>
          intro c x3 M2 hc r2 g1 g2
          have m2 := hMp.r10 r2
          have hcN : c < vN (lay f (2 * p + 1)) := by omega
          refine s_1047_15 ⟨by omega, fun hle => by rw [Int.toNat_natCast, m2.2.1.1] at hle; omega, fun _ => ⟨fun hx => hfin M2 x3 r2 g1 fun h0 => absurd h0 hx, fun hx => ?_⟩⟩
          have h33 : ∀ (t i : Nat) (y3 : Int) (M3 : Mm), vS (lay f (2 * p + 1)) c + i + t = vS (lay f (2 * p + 1)) (c + 1) → R10 S30 M M3 → (y3 ≠ 0 → 0 < drN (lay f 1) (lay f (2 * p + 1)) (2 * p + 1) e (vE (lay f (2 * p + 1)))) → (y3 = 0 → drN (lay f 1) (lay f (2 * p + 1)) (2 * p + 1) e (vS (lay f (2 * p + 1)) c + i) = 0) → L_1047_33 (e : Int) (p : Int) y3 (c : Int) (i : Int) M3 Q := by
            intro t
            induction t with
            | zero =>
              intro i y3 M3 hi r3 k1 k2
              have m3 := hMp.r10 r3
              obtain ⟨z1, z2, z3⟩ := m3.sz hcN
              have h312 := hP.2.2.2.1
              refine s_1047_33 ?_
              rw [z1]
              refine ⟨⟨by omega, by omega, by omega, by omega, by unfold inR; omega⟩, fun _ => ⟨by omega, ihc (c + 1) y3 M3 (by omega) r3 k1 fun h0 => ?_⟩, fun hlt => by omega⟩
              have := k2 h0
              rw [show vS (lay f (2 * p + 1)) c + i = vS (lay f (2 * p + 1)) (c + 1) by omega] at this
              exact this
            | succ t iht =>
              intro i y3 M3 hi r3 k1 k2
              have m3 := hMp.r10 r3
              obtain ⟨z1, z2, z3⟩ := m3.sz hcN
              have h312 := hP.2.2.2.1
              refine s_1047_33 ?_
              rw [z1]
              refine ⟨⟨by omega, by omega, by omega, by omega, by unfold inR; omega⟩, fun hle => by omega, fun _ => ⟨fun hy => ⟨by omega, ihc (c + 1) y3 M3 (by omega) r3 k1 fun h0 => absurd h0 hy⟩, fun hy => ?_⟩⟩
              have hi' : vS (lay f (2 * p + 1)) c + i < vE (lay f (2 * p + 1)) := by omega
              refine c1039s (by omega) m3 hcN (by omega) fun M4 r4 hs => ?_
              have r34 := r3.tr r4
              refine c1045 (by omega) hP hg (hE.r10 r34 (by unfold S30; omega)) he hi' hs ⟨by omega, ?_⟩
              refine iht (i + 1) _ M4 (by omega) r34 (fun h0 => ?_) (fun h0 => ?_)
              · have : oQ (lay f 1) (lay f (2 * p + 1)) (2 * p + 1) (vS (lay f (2 * p + 1)) c + i) e = true := Classical.byContradiction fun hn => h0 (if_neg hn)
                exact cntB_one (b := fun i => oQ (lay f 1) (lay f (2 * p + 1)) (2 * p + 1) i e) hi' this
              · have : oQ (lay f 1) (lay f (2 * p + 1)) (2 * p + 1) (vS (lay f (2 * p + 1)) c + i) e = false := by
                  cases hh : oQ (lay f 1) (lay f (2 * p + 1)) (2 * p + 1) (vS (lay f (2 * p + 1)) c + i) e with
                  | false => rfl
                  | true => rw [hh, if_pos rfl] at h0; cases h0
                rw [show drN (lay f 1) (lay f (2 * p + 1)) (2 * p + 1) e (vS (lay f (2 * p + 1)) c + (i + 1)) = drN (lay f 1) (lay f (2 * p + 1)) (2 * p + 1) e (vS (lay f (2 * p + 1)) c + i) from cntB_n this]
                exact k2 hy
          exact h33 (vS (lay f (2 * p + 1)) (c + 1) - vS (lay f (2 * p + 1)) c) 0 x3 M2 (by have := (m2.sz hcN).2.1; omega) r2 g1 g2
      exact h15 (vN (lay f (2 * p + 1))) 0 0 M' (by omega) r (fun h => absurd rfl h) (fun _ => by rw [hMp.1.1.1.1]; rfl)
  exact key N 0 M (by omega) R10.rf rfl
theorem cum_le {P : Int → Int → Bool} (h : Sok P) {a b : Nat} (hab : a ≤ b) (hb : b ≤ vE P) : 0 ≤ cum (vL P) b - cum (vL P) a ∧ cum (vL P) b - cum (vL P) a ≤ 48 * ((b - a : Nat) : Int) := by
  induction b with
  | zero =>
    rw [show a = 0 by omega]
    omega
  | succ b ih =>
    by_cases e : a = b + 1
    · rw [e]; omega
    · have := ih (by omega) (by omega)
      rw [cum_s]
      have h4 := h.2.2.2.2 b (by omega)
      have h5 : sH P b - sL P b = vL P b := hi_lo _ _ _ _
      omega
theorem c1040 {p c : Nat} {f : Nat → Int} {M : Mm} {Q : Int → Mm → Prop} (hp : p < 12) (hM : Mds M p (lay f (2 * p + 1))) (hc : c < vN (lay f (2 * p + 1)))
    (hQ : ∀ M', R10 S30 M M' → Q (cum (vL (lay f (2 * p + 1))) (vS (lay f (2 * p + 1)) (c + 1)) - cum (vL (lay f (2 * p + 1))) (vS (lay f (2 * p + 1)) c)) M') : E_1040 (p : Int) (c : Int) M Q := by
  refine s_1040_0 ?_
  have hP := Sok.of hM.1
  have h78 := hP.2.2.1
  have h312 := hP.2.2.2.1
  have key : ∀ (t i : Nat) (M' : Mm), vS (lay f (2 * p + 1)) c + i + t = vS (lay f (2 * p + 1)) (c + 1) → R10 S30 M M' → L_1040_5 (p : Int) (c : Int) (cum (vL (lay f (2 * p + 1))) (vS (lay f (2 * p + 1)) c + i) - cum (vL (lay f (2 * p + 1))) (vS (lay f (2 * p + 1)) c)) (i : Int) M' Q := by
    intro t
    induction t with
    | zero =>
      intro i M' hi r
      obtain ⟨z1, z2, z3⟩ := (hM.r10 r).sz hc
      refine s_1040_5 ?_
      rw [z1]
      refine ⟨⟨by omega, by omega, by omega, by omega, by unfold inR; omega⟩, fun _ => ?_, fun h => by omega⟩
      rw [show vS (lay f (2 * p + 1)) c + i = vS (lay f (2 * p + 1)) (c + 1) by omega]
      exact hQ M' r
    | succ t ih =>
      intro i M' hi r
      obtain ⟨z1, z2, z3⟩ := (hM.r10 r).sz hc
      refine s_1040_5 ?_
      rw [z1]
      refine ⟨⟨by omega, by omega, by omega, by omega, by unfold inR; omega⟩, fun h => by omega, fun _ => c1039s hp (hM.r10 r) hc (by omega) fun M2 r2 hs => ?_⟩
      obtain ⟨s1, s2, s3, s4⟩ := hs
      have hcu := cum_le hP (a := vS (lay f (2 * p + 1)) c) (b := vS (lay f (2 * p + 1)) c + i) (by omega) (by omega)
      have h4 := hP.2.2.2.2 (vS (lay f (2 * p + 1)) c + i) (by omega)
      have h5 : sH (lay f (2 * p + 1)) (vS (lay f (2 * p + 1)) c + i) - sL (lay f (2 * p + 1)) (vS (lay f (2 * p + 1)) c + i) = vL (lay f (2 * p + 1)) (vS (lay f (2 * p + 1)) c + i) := hi_lo _ _ _ _
      rw [s3, s4]
      refine ⟨⟨by omega, by omega⟩, fun x ex => ⟨by omega, ?_⟩⟩
      have := ih (i + 1) M2 (by omega) (r.tr r2)
      rw [show vS (lay f (2 * p + 1)) c + (i + 1) = (vS (lay f (2 * p + 1)) c + i) + 1 by omega, cum_s] at this
      rw [ex, h5]
      rw [show (cum (vL (lay f (2 * p + 1))) (vS (lay f (2 * p + 1)) c + i) + ((vL (lay f (2 * p + 1)) (vS (lay f (2 * p + 1)) c + i) : Nat) : Int) - cum (vL (lay f (2 * p + 1))) (vS (lay f (2 * p + 1)) c)) = (cum (vL (lay f (2 * p + 1))) (vS (lay f (2 * p + 1)) c + i) - cum (vL (lay f (2 * p + 1))) (vS (lay f (2 * p + 1)) c)) + ((vL (lay f (2 * p + 1)) (vS (lay f (2 * p + 1)) c + i) : Nat) : Int) by omega] at this
      exact this
  have := key (vS (lay f (2 * p + 1)) (c + 1) - vS (lay f (2 * p + 1)) c) 0 M (by have := (hM.sz hc).2.1; omega) R10.rf
  rw [show vS (lay f (2 * p + 1)) c + 0 = vS (lay f (2 * p + 1)) c from rfl, Int.sub_self] at this
  exact this
theorem c211 {k i c : Nat} {P : Int → Int → Bool} {M : Mm} {Q : Int → Mm → Prop} (hC : Cls M k P) (hP : Sok P) (hc : c < vN P) (h1 : vS P c ≤ i) (h2 : i < vS P (c + 1)) (hQ : Q (c : Int) M) : E_211 k (i : Int) M Q := by
  refine s_211_0 ?_
  have h11 : M.1 2 k 11 = vN P := hC.2.2.2.1
  have h78 := hP.2.2.1
  have h312 := hP.2.2.2.1
  have key : ∀ (s c' : Nat), c' + s = c → L_211_2 k (i : Int) (c' : Int) M Q := by
    intro s
    induction s with
    | zero =>
      intro c' h
      have e : c' = c := by omega
      subst e
      obtain ⟨a1, a2, -⟩ := hC.2.2.1 c' hc
      have hm : vS P (c' + 1) ≤ vE P := hP.1.1.1.mono (c := c' + 1) (d := vN P) (by omega) (Nat.le_refl _)
      refine s_211_2 ⟨fun h => by omega, fun _ => ?_⟩
      rw [atN_i (by omega) (by omega), atN_i (by omega) (by omega), Int.toNat_natCast, a1, a2]
      exact ⟨by omega, fun h => by omega, fun _ => hQ⟩
    | succ s ih =>
      intro c' h
      have ih := ih (c' + 1) (by omega)
      obtain ⟨a1, a2, -⟩ := hC.2.2.1 c' (by omega)
      have hm : vS P (c' + 1) ≤ vS P c := hP.1.1.1.mono (c := c' + 1) (d := c) (by omega) (by omega)
      have hm2 : vS P c ≤ vE P := hP.1.1.1.mono (c := c) (d := vN P) (by omega) (Nat.le_refl _)
      refine s_211_2 ⟨fun h => by omega, fun _ => ?_⟩
      rw [atN_i (by omega) (by omega), atN_i (by omega) (by omega), Int.toNat_natCast, a1, a2]
      exact ⟨by omega, fun _ => ⟨by omega, ih⟩, fun h => by omega⟩
  exact key c 0 (by omega)

/-! what holds between calls -/
theorem hay_congr {f g : Nat → Int} (h : cel f = cel g) : ∀ d : Nat, hay f d = hay g d
  | 0 => by funext x y; show cel f (x / 2) (y / 2) = cel g (x / 2) (y / 2); rw [h]
  | d + 1 => by
    funext x y
    unfold hay
    rw [hay_congr h d]
theorem sd_congr {f g : Nat → Int} (h : lay f = lay g) (c : Nat) : ∀ n, sd f c n = sd g c n
  | 0 => rfl
  | n + 1 => by
    unfold sd
    rw [h, sd_congr h c n]
theorem FrM.cg {M : Mm} {f g : Nat → Int} {N : Nat} (h : ∀ y, y < 12 → f y = g y) (hF : FrM M f N) : FrM M g N := by
  have e1 : lay f = lay g := by funext d x y; exact lay_congr h d x y
  have e3 : cel f = cel g := cel_cg h
  have e2 : hay f = hay g := by funext d; exact hay_congr e3 d
  have enc : nc f = nc g := by
    funext k
    show cP (Fi (cp (lay f (2 * k + 1))) ad) 2304 = cP (Fi (cp (lay g (2 * k + 1))) ad) 2304
    rw [e1]
  have efc : fcK f = fcK g := by
    funext k c
    have a : ∀ f, fcK f k c = (fun L : Nat → Int → Int → Bool => @dite Nat (∃ q, q < 2304 ∧ Fi (cp (L (2 * k + 1))) ad q ∧ cP (Fi (cp (L (2 * k + 1))) ad) q = c) (Classical.propDecidable _) (fun h => Classical.choose h) (fun _ => 0)) (lay f) := fun f => rfl
    rw [a f, a g, e1]
  have epr : prK f = prK g := by
    funext k c
    unfold prK parK
    rw [efc]
    show (if k = 0 then (-1 : Int) else lb (cp (lay f (2 * (k - 1) + 1))) (fcK g k c)) = if k = 0 then -1 else lb (cp (lay g (2 * (k - 1) + 1))) (fcK g k c)
    rw [e1]
  have esd : sd f = sd g := by funext c n; exact sd_congr e1 c n
  have efa : fcC f = fcC g := by
    funext c
    unfold fcC
    rw [esd, e1]
  have ehc : hcnt f = hcnt g := by
    funext d
    unfold hcnt
    rw [e2]
  have elc : lcnt f = lcnt g := by
    funext d
    unfold lcnt
    rw [e1]
  obtain ⟨h1, h2, h3, h4, h5, h6, h7, h8, h9, h10, h11⟩ := hF
  unfold IsN at h1
  unfold PhR at h4
  rw [elc] at h1
  rw [enc, epr] at h2 h9 h10 h11
  rw [ehc] at h3
  rw [e1] at h4 h5 h6 h7
  rw [efa] at h8
  refine ⟨h1, h2, h3, fun k hk => ⟨(h4 k hk).1, (h4 k hk).2.1, fun x hx => ?_⟩, h5, h6, h7, h8, h9, h10, h11⟩
  have := (h4 k hk).2.2 x hx
  rw [this]
  show lb (cp (lay f (2 * k + 1))) x = lb (cp (lay g (2 * k + 1))) x
  rw [e1]
/-- the number of phases -/
noncomputable def nP (f : Nat → Int) : Nat := @dite Nat (∃ n, IsN f n) (Classical.propDecidable _) (fun h => Classical.choose h) (fun _ => 0)
theorem nP_eq {f : Nat → Int} {n : Nat} (h : IsN f n) : n = nP f := by
  have hex : ∃ n, IsN f n := ⟨n, h⟩
  unfold nP
  rw [dif_pos hex]
  exact h.un (Classical.choose_spec hex)
def RgI (M : Mm) : Prop := R12 (M.1 500 0) ∧ ∀ y, y < 12 → M.1 1101 0 y = M.1 500 0 y
def SvI (M : Mm) : Prop := R12 (M.1 500 1) ∧ (M.1 9 0 6 = 0 ∨ M.1 9 0 6 = 1) ∧ M.1 10 0 8 = M.1 9 0 6 ∧ (M.1 9 0 6 = 1 → ∀ y, y < 12 → M.1 1104 0 y = M.1 500 1 y)
def HiI (M : Mm) : Prop := ∃ s u r : Nat, (M.1 1 0 1 = s ∧ s < 9 ∧ M.1 1 0 2 = u ∧ M.1 1 0 3 = r ∧ M.1 10 0 6 = u ∧ M.1 10 0 7 = r ∧ u + r ≤ 8) ∧ (∀ q, q < 108 → 0 ≤ M.1 200 0 q ∧ M.1 200 0 q < 4096) ∧ (∀ y, y < 12 → M.1 200 0 (s * 12 + y) = M.1 500 0 y) ∧ (∀ j y, j < u → y < 12 → M.1 1102 0 (12 * j + y) = M.1 200 0 ((s + 9 - (u - j)) % 9 * 12 + y)) ∧ ∀ j y, j < r → y < 12 → M.1 1103 0 (12 * j + y) = M.1 200 0 ((s + (r - j)) % 9 * 12 + y)
def TxI (M : Mm) : Prop := ∃ l : Nat, M.1 6 0 3 = l ∧ l ≤ 60 ∧ M.1 10 0 11 = l ∧ (∀ i, i < l → M.1 1110 0 i = M.1 700 0 i) ∧ M.1 10 0 12 = M.1 6 0 4
def ChI (M : Mm) : Prop := Non M ∧ (M.1 5 0 10 ≠ 0 → FrC M (M.1 500 0) (nP (M.1 500 0))) ∧ (M.1 10 0 9 ≠ 0 → FrM M (M.1 500 0) (nP (M.1 500 0)))
def Inv (M : Mm) : Prop := RgI M ∧ SvI M ∧ HiI M ∧ TxI M ∧ ChI M
theorem RgI.fx {M M' : Mm} (h : RgI M) (e : M'.1 500 0 = M.1 500 0 ∧ M'.1 1101 0 = M.1 1101 0) : RgI M' := by
  unfold RgI
  rw [e.1, e.2]
  exact h
theorem SvI.fx {M M' : Mm} (h : SvI M) (e : M'.1 500 1 = M.1 500 1 ∧ M'.1 9 0 = M.1 9 0 ∧ M'.1 1104 0 = M.1 1104 0) (e8 : M'.1 10 0 8 = M.1 10 0 8) : SvI M' := by
  unfold SvI
  rw [e.1, e.2.1, e.2.2, e8]
  exact h
theorem HiI.fx {M M' : Mm} (h : HiI M) (e : M'.1 1 0 = M.1 1 0 ∧ M'.1 200 0 = M.1 200 0 ∧ M'.1 500 0 = M.1 500 0 ∧ M'.1 1102 0 = M.1 1102 0 ∧ M'.1 1103 0 = M.1 1103 0) (e8 : M'.1 10 0 6 = M.1 10 0 6 ∧ M'.1 10 0 7 = M.1 10 0 7) : HiI M' := by
  unfold HiI
  rw [e.1, e.2.1, e.2.2.1, e.2.2.2.1, e.2.2.2.2, e8.1, e8.2]
  exact h
theorem TxI.fx {M M' : Mm} (h : TxI M) (e : M'.1 6 0 = M.1 6 0 ∧ M'.1 700 0 = M.1 700 0 ∧ M'.1 1110 0 = M.1 1110 0) (e8 : M'.1 10 0 11 = M.1 10 0 11 ∧ M'.1 10 0 12 = M.1 10 0 12) : TxI M' := by
  unfold TxI
  rw [e.1, e.2.1, e.2.2, e8.1, e8.2]
  exact h
/-! what a query leaves: the class's side -/
def TCX (t j : Nat) : Prop := t = 50 ∨ ((t = 500 ∨ t = 501) ∧ j = 2) ∨ t = 900 ∨ t = 901
def TCQ (t j : Nat) : Prop := TRF t j ∨ TCX t j
def CQ (M M1 : Mm) : Prop := Fx TCQ M M1 ∧ Non M1 ∧ (M1.1 5 0 10 ≠ 0 → FrC M1 (M.1 500 0) (nP (M.1 500 0)))
theorem CQ.rf {M : Mm} (h : Inv M) : CQ M M := ⟨Fx.rf, h.2.2.2.2.1, h.2.2.2.2.2.1⟩
theorem FrC.cx {M M' : Mm} {f : Nat → Int} {N : Nat} (h : FrC M f N) (g : Fx TCX M M') : FrC M' f N := h.fx (by rw [(g 5 0 (by unfold TCX; omega)).1]) fun t j h5 ht => g t j (by unfold TRF at ht; unfold TCX; omega)
theorem CQ.up {M M1 M2 : Mm} (c : CQ M M1) (g : Fx TCX M1 M2) : CQ M M2 := by
  obtain ⟨c1, c2, c3⟩ := c
  refine ⟨c1.tr (g.up fun t j h => Or.inr h), c2.fx ⟨(g 402 12 (by unfold TCX; omega)).1, (g 3 12 (by unfold TCX; omega)).1, (g 2 12 (by unfold TCX; omega)).1, (g 401 12 (by unfold TCX; omega)).2⟩, fun h => ?_⟩
  rw [(g 5 0 (by unfold TCX; omega)).1] at h
  exact (c3 h).cx g
theorem CQ.out {M M1 : Mm} (c : CQ M M1) (v : Int64) : CQ M (setJ M1 50 0 0 v) := c.up (Fx.setJ (Or.inl rfl))
theorem i502 {M : Mm} {Q : Mm → Prop} (h : Inv M) (hQ : ∀ M1, CQ M M1 → FrC M1 (M.1 500 0) (nP (M.1 500 0)) → Non M1 → Q M1) : E_502 0 M Q := by
  obtain ⟨⟨h1, -⟩, -, -, -, h2, h3, -⟩ := h
  refine c502 rfl h1 h2 (fun g => ⟨_, h3 g⟩) fun M1 N f1 _ hF hN => ?_
  have e := nP_eq hF.1
  subst e
  exact hQ M1 ⟨f1.up fun t j g => Or.inl g, hN, fun _ => hF⟩ hF hN
/-! the reference's side -/
def TMX (t j : Nat) : Prop := (t = 10 ∨ t = 1117 ∨ t = 1123 ∨ t = 1129 ∨ t = 1153) ∧ j = 0
def TMQ (t j : Nat) : Prop := (t = 10 ∨ (1116 ≤ t ∧ t ≤ 1153)) ∧ j = 0
def NK (q : Nat) : Prop := q = 6 ∨ q = 7 ∨ q = 8 ∨ q = 9 ∨ q = 11 ∨ q = 12 ∨ q = 18 ∨ q = 34 ∨ q = 44
def RQ (M1 M2 : Mm) : Prop := Fx TMQ M1 M2 ∧ (∀ q, q = 6 ∨ q = 7 ∨ q = 8 ∨ q = 11 ∨ q = 12 → M2.1 10 0 q = M1.1 10 0 q) ∧ (M2.1 10 0 9 ≠ 0 → FrM M2 (M1.1 500 0) (nP (M1.1 500 0)))
/-- what the reference needs at its start -/
def MI (M : Mm) : Prop := RgI M ∧ (M.1 10 0 9 ≠ 0 → FrM M (M.1 500 0) (nP (M.1 500 0)))
theorem RQ.rf {M : Mm} (h : MI M) : RQ M M := ⟨Fx.rf, fun _ _ => rfl, h.2⟩
theorem FrM.mx {M M' : Mm} {f : Nat → Int} {N : Nat} (h : FrM M f N) (g : Fx TMX M M') (k : ∀ q, NK q → M'.1 10 0 q = M.1 10 0 q) : FrM M' f N := h.fx ⟨k 18 (by unfold NK; omega), k 34 (by unfold NK; omega), k 44 (by unfold NK; omega)⟩ fun t ht => g t 0 (by unfold TMX; omega)
theorem RQ.st {M1 M2 M3 : Mm} (m : RQ M1 M2) (g : Fx TMX M2 M3) (k : ∀ q, NK q → M3.1 10 0 q = M2.1 10 0 q) : RQ M1 M3 := by
  obtain ⟨m1, m2, m3⟩ := m
  refine ⟨m1.tr (g.up fun t j h => by unfold TMX at h; unfold TMQ; omega), fun q hq => ?_, fun h => ?_⟩
  · rw [k q (by unfold NK; omega)]; exact m2 q hq
  · rw [k 9 (by unfold NK; omega)] at h
    exact (m3 h).mx g k
/-- the fields that a query of the reference may set -/
theorem RQ.set {M1 M2 M3 : Mm} {k : Nat} {v : Int} (m : RQ M1 M2) (e : M3 = setI M2 10 0 k v) (hk : ¬ NK k) : RQ M1 M3 := m.st (by rw [e]; exact Fx.setI (by unfold TMX; omega)) fun q hq => by rw [e, setI_at, ups_ne (fun z => hk (by rw [← z]; exact hq))]
theorem MI.set {M M' : Mm} {k : Nat} {v : Int} (m : MI M) (e : M' = setI M 10 0 k v) (hk : ¬ NK k) : MI M' := by
  have g : Fx TMX M M' := by rw [e]; exact Fx.setI (by unfold TMX; omega)
  have kk : ∀ q, NK q → M'.1 10 0 q = M.1 10 0 q := fun q hq => by rw [e, setI_at, ups_ne (fun z => hk (by rw [← z]; exact hq))]
  refine ⟨m.1.fx ⟨(g 500 0 (by unfold TMX; omega)).1, (g 1101 0 (by unfold TMX; omega)).1⟩, fun h => ?_⟩
  rw [kk 9 (by unfold NK; omega)] at h
  rw [(g 500 0 (by unfold TMX; omega)).1]
  exact (m.2 h).mx g kk
theorem RQ.r10 {S : Nat → Prop} {M1 M2 M3 : Mm} (m : RQ M1 M2) (r : R10 S M2 M3) (hs : ∀ q, S q → ¬ NK q) : RQ M1 M3 := m.st (r.1.up fun t j h => by unfold TMX; omega) fun q hq => r.2 q fun g => hs q g hq
theorem i1050 {M0 M1 : Mm} {Q : Mm → Prop} (h : MI M1) (h0 : Fx TMX M0 M1) (k0 : ∀ q, NK q → M1.1 10 0 q = M0.1 10 0 q) (hQ : ∀ M2, RQ M0 M2 → FrM M2 (M0.1 500 0) (nP (M0.1 500 0)) → M2.1 10 0 9 ≠ 0 → (∀ q, ¬ SW q → M2.1 10 0 q = M1.1 10 0 q) → M2.2 50 = M0.2 50 → Q M2) : E_1050 M1 Q := by
  obtain ⟨⟨h1, h2⟩, h3⟩ := h
  have e5 : M1.1 500 0 = M0.1 500 0 := (h0 500 0 (by unfold TMX; omega)).1
  rw [e5] at h1 h2 h3
  have hR : R12 (M1.1 1101 0) := h1.cg h2
  refine c1050 rfl hR (fun g => ⟨_, (h3 g).cg fun y hy => (h2 y hy).symm⟩) fun M2 N f2 k2 h9 hF => ?_
  have hF2 := hF.cg h2
  have e := nP_eq hF2.1
  subst e
  refine hQ M2 ⟨(h0.up fun t j g => by unfold TMX at g; unfold TMQ; omega).tr (f2.up fun t j g => by unfold TRM at g; unfold TMQ; omega), fun q hq => ?_, fun _ => hF2⟩ hF2 h9 k2 ?_
  · rw [k2 q (by unfold SW; omega), k0 q (by unfold NK; omega)]
  · funext j
    rw [(f2 50 j (by unfold TRM; omega)).2, (h0 50 j (by unfold TMX; omega)).2]
theorem CQ.mi {M M1 : Mm} (h : Inv M) (c : CQ M M1) : MI M1 := by
  have e : ∀ t j, t = 10 ∨ 1101 ≤ t → M1.1 t j = M.1 t j ∧ M1.2 t j = M.2 t j := fun t j ht => c.1 t j (by unfold TCQ TRF TCX; omega)
  have e5 : M1.1 500 0 = M.1 500 0 := (c.1 500 0 (by unfold TCQ TRF TCX; omega)).1
  refine ⟨h.1.fx ⟨e5, (e 1101 0 (by omega)).1⟩, fun g => ?_⟩
  rw [(e 10 0 (by omega)).1] at g
  rw [e5]
  exact (h.2.2.2.2.2.2 g).fx (by rw [(e 10 0 (by omega)).1]; exact ⟨rfl, rfl, rfl⟩) fun t ht => e t 0 (by omega)
theorem CQ.f {M M1 : Mm} (c : CQ M M1) : M1.1 500 0 = M.1 500 0 := (c.1 500 0 (by unfold TCQ TRF TCX; omega)).1
theorem Inv.q {M M1 M2 : Mm} (h : Inv M) (c : CQ M M1) (m : RQ M1 M2) : Inv M2 := by
  obtain ⟨i1, i2, i3, i4, i5⟩ := h
  have ec : ∀ t j, ¬ TCQ t j → M1.1 t j = M.1 t j := fun t j ht => (c.1 t j ht).1
  have em : ∀ t j, ¬ TMQ t j → M2.1 t j = M1.1 t j := fun t j ht => (m.1 t j ht).1
  have e : ∀ t j, ¬ TCQ t j → ¬ TMQ t j → M2.1 t j = M.1 t j := fun t j h1 h2 => (em t j h2).trans (ec t j h1)
  have e10 : ∀ q, q = 6 ∨ q = 7 ∨ q = 8 ∨ q = 11 ∨ q = 12 → M2.1 10 0 q = M.1 10 0 q := fun q hq => by rw [m.2.1 q hq, ec 10 0 (by unfold TCQ TRF TCX; omega)]
  have e5 : M2.1 500 0 = M.1 500 0 := e 500 0 (by unfold TCQ TRF TCX; omega) (by unfold TMQ; omega)
  refine ⟨i1.fx ⟨e5, e 1101 0 (by unfold TCQ TRF TCX; omega) (by unfold TMQ; omega)⟩, i2.fx ⟨e 500 1 (by unfold TCQ TRF TCX; omega) (by unfold TMQ; omega), e 9 0 (by unfold TCQ TRF TCX; omega) (by unfold TMQ; omega), e 1104 0 (by unfold TCQ TRF TCX; omega) (by unfold TMQ; omega)⟩ (e10 8 (by omega)), i3.fx ⟨e 1 0 (by unfold TCQ TRF TCX; omega) (by unfold TMQ; omega), e 200 0 (by unfold TCQ TRF TCX; omega) (by unfold TMQ; omega), e5, e 1102 0 (by unfold TCQ TRF TCX; omega) (by unfold TMQ; omega), e 1103 0 (by unfold TCQ TRF TCX; omega) (by unfold TMQ; omega)⟩ ⟨e10 6 (by omega), e10 7 (by omega)⟩, i4.fx ⟨e 6 0 (by unfold TCQ TRF TCX; omega) (by unfold TMQ; omega), e 700 0 (by unfold TCQ TRF TCX; omega) (by unfold TMQ; omega), e 1110 0 (by unfold TCQ TRF TCX; omega) (by unfold TMQ; omega)⟩ ⟨e10 11 (by omega), e10 12 (by omega)⟩, c.2.1.fx ⟨em 402 12 (by unfold TMQ; omega), em 3 12 (by unfold TMQ; omega), em 2 12 (by unfold TMQ; omega), (m.1 401 12 (by unfold TMQ; omega)).2⟩, fun g => ?_, fun g => ?_⟩
  · rw [em 5 0 (by unfold TMQ; omega)] at g
    rw [e5]
    exact (c.2.2 g).fx (by rw [em 5 0 (by unfold TMQ; omega)]) fun t j h5 ht => m.1 t j (by unfold TRF at ht; unfold TMQ; omega)
  · rw [e5, ← c.f]
    exact m.2.2 g

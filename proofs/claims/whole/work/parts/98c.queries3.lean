/-! queries: contours, vertices, origins -/
section Kinds3
variable {M : Mm} {K : Mm → Prop}
/-- there is such a contour, such a side -/
def OkC (f : Nat → Int) (x y : Int) (p c : Nat) : Prop := x = p ∧ y = c ∧ p < nP f ∧ c < vN (PL f p)
def OkS (f : Nat → Int) (x y z : Int) (p c s : Nat) : Prop := x = p ∧ y = c ∧ z = s ∧ p < nP f ∧ c < vN (PL f p) ∧ vS (PL f p) c + s < vS (PL f p) (c + 1)
theorem hc_p {f : Nat → Int} {M : Mm} (hF : FrC M f (nP f)) (x y : Int) : (hcV (M.1 5 0 11) x (M.1 2 (phV (M.1 5 0 11) x) 11) y = 1 ∧ ∃ p c, OkC f x y p c) ∨ (hcV (M.1 5 0 11) x (M.1 2 (phV (M.1 5 0 11) x) 11) y = 0 ∧ ¬ ∃ p c, OkC f x y p c) := by
  obtain ⟨hI, hT, hk, -⟩ := hF
  have h12 := hI.le
  rw [hT.1.1]
  unfold hcV
  rcases hp_p (nP f : Int) x with ⟨h1, h2, h3⟩ | ⟨h1, h2⟩
  · rw [if_neg (by omega)]
    obtain ⟨p, rfl⟩ : ∃ p : Nat, x = p := ⟨x.toNat, by omega⟩
    rw [phV_in (by omega) (by omega)]
    have e : M.1 2 p 11 = vN (PL f p) := (hk p (by omega)).2.2.2.2.1
    rw [e]
    by_cases q : 0 ≤ y ∧ y < (vN (PL f p) : Int)
    · rw [if_pos q]
      exact Or.inl ⟨rfl, p, y.toNat, rfl, by omega, by omega, by omega⟩
    · rw [if_neg q]
      refine Or.inr ⟨rfl, fun ⟨p', c, g1, g2, g3, g4⟩ => q ?_⟩
      have : p' = p := by omega
      subst this
      omega
  · rw [if_pos h1]
    exact Or.inr ⟨rfl, fun ⟨p', c, g1, g2, g3, g4⟩ => h2 (by omega)⟩
theorem hs_p {f : Nat → Int} {M : Mm} (hF : FrC M f (nP f)) (x y z : Int) : (hsV (hcV (M.1 5 0 11) x (M.1 2 (phV (M.1 5 0 11) x) 11) y) z (sofV (M.1 2 (phV (M.1 5 0 11) x) 11) (M.1 301 (phV (M.1 5 0 11) x)) y) = 1 ∧ ∃ p c s, OkS f x y z p c s) ∨ (hsV (hcV (M.1 5 0 11) x (M.1 2 (phV (M.1 5 0 11) x) 11) y) z (sofV (M.1 2 (phV (M.1 5 0 11) x) 11) (M.1 301 (phV (M.1 5 0 11) x)) y) = 0 ∧ ¬ ∃ p c s, OkS f x y z p c s) := by
  unfold hsV
  rcases hc_p hF x y with ⟨h1, p, c, h2, h3, h4, h5⟩ | ⟨h1, h2⟩
  · rw [if_neg (by omega)]
    obtain ⟨hI, hT, hk, -⟩ := hF
    have h12 := hI.le
    obtain ⟨-, hcls⟩ := hk p h4
    have h78 := (Sok.of hcls.ok).2.2.1
    have ep : phV (M.1 5 0 11) x = p := by rw [hT.1.1, h2]; exact phV_in (by omega) (by omega)
    have e : M.1 2 p 11 = vN (PL f p) := hcls.2.2.2.1
    have es : M.1 301 p c = (vS (PL f p) (c + 1) : Int) - vS (PL f p) c := (hcls.2.2.1 c h5).2.1
    have hlt : vS (PL f p) c < vS (PL f p) (c + 1) := (hcls.1.1.2.1 c h5).1
    have esf : sofV (M.1 2 (phV (M.1 5 0 11) x) 11) (M.1 301 (phV (M.1 5 0 11) x)) y = (vS (PL f p) (c + 1) : Int) - vS (PL f p) c := by
      rw [ep, e, h3]
      unfold sofV
      have hN78 : vN (PL f p) ≤ 78 := h78
      rw [if_pos (by omega), atN_in (by omega)]
      exact es
    rw [esf]
    by_cases q : 0 ≤ z ∧ z < (vS (PL f p) (c + 1) : Int) - vS (PL f p) c
    · rw [if_pos q]
      exact Or.inl ⟨rfl, p, c, z.toNat, h2, h3, by omega, h4, h5, by omega⟩
    · rw [if_neg q]
      refine Or.inr ⟨rfl, fun ⟨p', c', s', g1, g2, g3, g4, g5, g6⟩ => q ?_⟩
      have e1 : p' = p := by omega
      have e2 : c' = c := by omega
      subst e1
      subst e2
      omega
  · rw [if_pos h1]
    exact Or.inr ⟨rfl, fun ⟨p', c', s', g1, g2, g3, g4, g5, g6⟩ => h2 ⟨p', c', g1, g2, g4, g5⟩⟩
theorem c1070 {f : Nat → Int} {x y : Int} {M : Mm} {Q : Int → Mm → Prop} (hM : FrM M f (nP f)) (h1 : (∃ p c, OkC f x y p c) → Q 1 M) (h0 : (¬ ∃ p c, OkC f x y p c) → Q 0 M) : E_1070 x y M Q := by
  obtain ⟨gI, gT, gh, gk, -⟩ := hM
  have h12 := gI.le
  have vp := inV_p x 0 ((nP f : Int) - 1)
  refine s_1070_0 ?_
  rw [gT.1.1]
  refine ⟨by omega, fun hz => h0 fun ⟨p, c, g1, g2, g3, g4⟩ => by omega, fun hn => ?_⟩
  obtain ⟨p, rfl⟩ : ∃ p : Nat, x = p := ⟨x.toNat, by omega⟩
  have hp : p < nP f := by omega
  have hm := (gk p hp).2.1
  have h78 : vN (PL f p) ≤ 78 := (Sok.of hm.1).2.2.1
  have e24 : M.1 1124 0 p = vN (PL f p) := hm.2.1.1
  rw [Int.toNat_natCast, e24]
  have vc := inV_p y 0 ((vN (PL f p) : Int) - 1)
  refine ⟨⟨by omega, by omega⟩, fun b eb => ?_⟩
  by_cases q : 0 ≤ y ∧ y < (vN (PL f p) : Int)
  · rw [if_neg (by omega)] at eb
    rw [eb]
    exact ⟨Or.inr rfl, h1 ⟨p, y.toNat, rfl, by omega, hp, by omega⟩⟩
  · rw [if_pos (by omega)] at eb
    rw [eb]
    refine ⟨Or.inl rfl, h0 fun ⟨p', c, g1, g2, g3, g4⟩ => q ?_⟩
    have : p' = p := by omega
    subst this
    omega
/-- what is said of a contour -/
noncomputable def cvV (f : Nat → Int) (p c : Nat) (w : Int) : Int := if w = 0 then (vS (PL f p) (c + 1) : Int) - vS (PL f p) c else if w = 1 then hol (PL f p) (vX (PL f p) (vS (PL f p) c)) (vY (PL f p) (vS (PL f p) c)) else if w = 2 then lb (PK f p) (cid (vX (PL f p) (vS (PL f p) c) - hol (PL f p) (vX (PL f p) (vS (PL f p) c)) (vY (PL f p) (vS (PL f p) c))) (vY (PL f p) (vS (PL f p) c))) else cum (vL (PL f p)) (vS (PL f p) (c + 1)) - cum (vL (PL f p)) (vS (PL f p) c)
theorem k22 {x y w : Int} (h : Inv M) (hK : ∀ M', Inv M' → K M') : W_1213 x y w M (fun (r : Int) (M1 : Mm) => E_1071 x y w M1 (fun (b : Int) (M2 : Mm) => M2.1 10 0 0 = r ∧ (r = 0 → M2.2 50 0 0 = (Int32.ofInt b).toInt64) ∧ K M2)) := by
  refine w_1213 (x_923 (i502 h fun M1 c hF hN => ?_))
  have hh := hc_p hF x y
  have vw := inV_p w 0 3
  have bad1 : (¬ ∃ p c, OkC (M.1 500 0) x y p c) → E_1071 x y w M1 (fun (b : Int) (M2 : Mm) => M2.1 10 0 0 = 1 ∧ ((1 : Int) = 0 → M2.2 50 0 0 = (Int32.ofInt b).toInt64) ∧ K M2) := fun hx => by
    refine s_1071_0 (i1050q h c fun M2 m hM => c1070 hM (fun g => absurd g hx) fun _ => ⟨fun hr => absurd rfl hr, fun _ M3 e3 => ⟨fun h0 => by rw [thr_v e3] at h0; exact absurd h0 (by decide), fun _ => fin1 h hK c (m.set e3 NK0) (thr_v e3) (by decide)⟩⟩)
  have bad2 : (∃ p c, OkC (M.1 500 0) x y p c) → ¬ (0 ≤ w ∧ w ≤ 3) → E_1071 x y w M1 (fun (b : Int) (M2 : Mm) => M2.1 10 0 0 = 2 ∧ ((2 : Int) = 0 → M2.2 50 0 0 = (Int32.ofInt b).toInt64) ∧ K M2) := fun hx hw => by
    refine s_1071_0 (i1050q h c fun M2 m hM => c1070 hM (fun _ => ⟨fun _ b eb M3 e3 => ?_, fun hr => absurd hr (by decide)⟩) fun g => absurd hx g)
    rw [if_neg (by omega)] at eb
    rw [eb] at e3
    exact ⟨fun h0 => by rw [thr_v e3] at h0; exact absurd h0 (by decide), fun _ => fin1 h hK c (m.set e3 NK0) (thr_v e3) (by decide)⟩
  refine ⟨fun hv => ?_, fun hv => Or.inl ⟨rfl, bad1 (by rcases hh with ⟨h1, -⟩ | ⟨-, h2⟩; exact absurd hv (by omega); exact h2)⟩⟩
  have hok : ∃ p c, OkC (M.1 500 0) x y p c := by
    rcases hh with ⟨-, h2⟩ | ⟨h1, -⟩
    · exact h2
    · exact absurd h1 hv
  refine ⟨fun hw => Or.inr ⟨rfl, bad2 hok (by omega)⟩, fun hw => ⟨fun hw2 => ?_, fun hw2 => Or.inr ⟨rfl, bad2 hok (by omega)⟩⟩⟩
  obtain ⟨p, cc, rfl, rfl, hp, hc⟩ := hok
  generalize hf : M.1 500 0 = f at *
  obtain ⟨hI, hT, hk, -⟩ := hF
  have h12 := hI.le
  obtain ⟨-, hcls⟩ := hk p hp
  have hok := Sok.of hcls.ok
  have h78 : vN (PL f p) ≤ 78 := hok.2.2.1
  have h312 : vE (PL f p) ≤ 312 := hok.2.2.2.1
  have ep : phV (M1.1 5 0 11) (p : Int) = p := by rw [hT.1.1]; exact phV_in (by omega) (by omega)
  obtain ⟨d0, d1, d2, d3, d4⟩ := hcls.2.2.1 cc hc
  have hlt : vS (PL f p) cc < vS (PL f p) (cc + 1) := (hcls.1.1.2.1 cc hc).1
  have hleE : vS (PL f p) (cc + 1) ≤ vE (PL f p) := hcls.1.1.mono (show cc + 1 ≤ vN (PL f p) by omega) (Nat.le_refl _)
  have fin : ∀ v : Int, v = cvV f p cc w → E_1071 (p : Int) (cc : Int) w (setJ M1 50 0 0 ((Int32.ofInt v).toInt64)) (fun (b : Int) (M2 : Mm) => M2.1 10 0 0 = 0 ∧ ((0 : Int) = 0 → M2.2 50 0 0 = (Int32.ofInt b).toInt64) ∧ K M2) := by
    intro v ev
    refine s_1071_0 (i1050q h (c.out _) fun M2 m hM => ?_)
    rw [hf] at hM
    refine c1070 hM (fun _ => ⟨fun _ b eb M3 e3 => ?_, fun hr => absurd hr (by decide)⟩) fun g => absurd ⟨p, cc, rfl, rfl, hp, hc⟩ g
    rw [if_pos (by omega)] at eb
    rw [eb] at e3
    have m3 := m.set e3 NK0
    have t3 := thr_v e3
    have hM3 : FrM M3 f (nP f) := hM.mx (by rw [e3]; exact Fx.setI (by unfold TMX; omega)) fun q hq => by rw [e3, setI_at, ups_ne (fun z => NK0 (by rw [← z]; exact hq))]
    obtain ⟨gI, gT, gh, gk, -⟩ := hM3
    obtain ⟨-, hm, hl⟩ := gk p hp
    obtain ⟨z1, z2, z3⟩ := hm.sz hc
    have z1' : szV (M3.1 1125 0) (p : Int) (cc : Int) = ((vS (PL f p) (cc + 1) - vS (PL f p) cc : Nat) : Int) := z1
    have eho : M3.1 1126 0 (160 * p + cc) = hol (PL f p) (vX (PL f p) (vS (PL f p) cc)) (vY (PL f p) (vS (PL f p) cc)) := hm.2.2 cc hc
    have est : stV (M3.1 1125 0) (p : Int) (cc : Int) = vS (PL f p) cc := by
      unfold stV
      rw [show (161 * (p : Int) + (cc : Int)).toNat = 161 * p + cc by omega]
      exact hm.2.1.2.1 cc (show cc ≤ vN (PL f p) by omega)
    obtain ⟨exx, eyy⟩ := hm.2.1.2.2 (vS (PL f p) cc) (show vS (PL f p) cc < vE (PL f p) by omega)
    have exx' : M3.1 1127 0 (640 * p + vS (PL f p) cc) = vX (PL f p) (vS (PL f p) cc) := exx
    have eyy' : M3.1 1128 0 (640 * p + vS (PL f p) cc) = vY (PL f p) (vS (PL f p) cc) := eyy
    have hbn : bn (PL f p) (vX (PL f p) (vS (PL f p) cc)) (vY (PL f p) (vS (PL f p) cc)) = true := hcls.1.1.bend (show vS (PL f p) cc < vE (PL f p) by omega)
    have hr := bn_rng hbn
    have hh1 := hol_c (PL f p) (vX (PL f p) (vS (PL f p) cc)) (vY (PL f p) (vS (PL f p) cc))
    refine ⟨fun _ => ⟨fun hw0 => ⟨⟨by omega, by omega, by omega⟩, fun x4 e4 => ?_⟩, fun hw0 => ⟨⟨by omega, by omega, by omega, by omega, by rw [z1']; unfold inR; omega⟩, fin0 h hK c m3 t3 ?_⟩⟩, fun hne => absurd t3 hne⟩
    · rw [show (160 * (p : Int) + (cc : Int)).toNat = 160 * p + cc by omega, eho] at e4
      refine ⟨fun hw1 => ⟨fun hw3 => ⟨by omega, ⟨by omega, by omega, by omega, by omega⟩, ?_⟩, fun hw3 => c1040 (by omega) hm hc fun M4 r4 => fin0 h hK c (m3.r10 r4 fun q hq => by unfold S30 at hq; unfold NK; omega) (by rw [r4.2 0 (by unfold S30; omega)]; exact t3) ?_⟩, fun hw1 => fin0 h hK c m3 t3 ?_⟩
      · rw [est]
        refine ⟨by omega, fun x5 e5 => ?_⟩
        rw [e5, show (640 * (p : Int) + (vS (PL f p) cc : Int)).toNat = 640 * p + vS (PL f p) cc by omega, exx', eyy', e4]
        refine ⟨⟨by omega, by omega, by omega, by omega, by omega, by omega, by omega⟩, fin0 h hK c m3 t3 ?_⟩
        rw [ev]
        unfold cvV
        rw [if_neg hw0, if_neg hw1, if_pos (by omega)]
        generalize hol (PL f p) (vX (PL f p) (vS (PL f p) cc)) (vY (PL f p) (vS (PL f p) cc)) = ho at *
        have hx0 : cid (vX (PL f p) (vS (PL f p) cc) - ho) (vY (PL f p) (vS (PL f p) cc)) < 2304 := cid_lt (by omega) (by omega) (by omega) (by omega)
        rw [← hl _ hx0]
        unfold cid at hx0 ⊢
        rw [show (2304 * (p : Int) + 48 * vY (PL f p) (vS (PL f p) cc) + vX (PL f p) (vS (PL f p) cc) - ho).toNat = 2304 * p + (48 * vY (PL f p) (vS (PL f p) cc) + (vX (PL f p) (vS (PL f p) cc) - ho)).toNat by omega]
      · rw [ev]
        unfold cvV
        rw [if_neg hw0, if_neg hw1, if_neg (by omega)]
      · rw [ev, e4]
        unfold cvV
        rw [if_neg hw0, if_pos hw1]
    · rw [ev, z1']
      unfold cvV
      rw [if_pos hw0]
      omega
  rw [ep]
  refine s_208_0 ⟨fun g => ?_, fun g => ?_, fun g => ?_, fun g => ?_⟩
  · refine fin _ ?_
    rw [atN_in (by omega)]
    unfold cvV
    rw [if_pos g]; exact d1
  · refine fin _ ?_
    rw [atN_in (by omega)]
    unfold cvV
    rw [if_neg (by omega), if_pos g]; exact d2
  · refine fin _ ?_
    rw [atN_in (by omega)]
    unfold cvV
    rw [if_neg (by omega), if_neg (by omega), if_pos g]; exact d3
  · refine fin _ ?_
    rw [atN_in (by omega)]
    unfold cvV
    rw [if_neg (by omega), if_neg (by omega), if_neg (by omega)]; exact d4
/-- a vertex out of its side -/
theorem vx_side {P : Int → Int → Bool} {i : Nat} (hd : Dir (sD P i)) : vxV (sD P i) (sA P i) (sL P i) (sH P i) = vX P i ∧ vyV (sD P i) (sA P i) (sL P i) (sH P i) = vY P i := by
  unfold sA sL sH
  generalize sD P i = d at *
  rcases hd with rfl | rfl | rfl | rfl <;> exact ⟨rfl, rfl⟩
theorem k23 {x y z w : Int} (h : Inv M) (hK : ∀ M', Inv M' → K M') : W_1214 x y z w M (fun (r : Int) (M1 : Mm) => E_1072 x y z w M1 (fun (b : Int) (M2 : Mm) => M2.1 10 0 0 = r ∧ (r = 0 → M2.2 50 0 0 = (Int32.ofInt b).toInt64) ∧ K M2)) := by
  refine w_1214 (x_924 (i502 h fun M1 c hF hN => ?_))
  have hh := hs_p hF x y z
  have vw := inV_p w 0 1
  -- the reference's sizes
  have size : ∀ {M2 : Mm}, FrM M2 (M.1 500 0) (nP (M.1 500 0)) → ∀ {p cc : Nat}, OkC (M.1 500 0) x y p cc → szV (M2.1 1125 0) x y = ((vS (PL (M.1 500 0) p) (cc + 1) - vS (PL (M.1 500 0) p) cc : Nat) : Int) ∧ vS (PL (M.1 500 0) p) cc < vS (PL (M.1 500 0) p) (cc + 1) ∧ vS (PL (M.1 500 0) p) (cc + 1) ≤ 312 ∧ cc < 160 ∧ p < 12 := by
    rintro M2 hM p cc ⟨rfl, rfl, hp, hc⟩
    obtain ⟨gI, gT, gh, gk, -⟩ := hM
    have h12 := gI.le
    obtain ⟨-, hm, -⟩ := gk p hp
    obtain ⟨z1, z2, z3⟩ := hm.sz hc
    have h78 : vN (PL (M.1 500 0) p) ≤ 78 := (Sok.of hm.1).2.2.1
    have h312 : vE (PL (M.1 500 0) p) ≤ 312 := (Sok.of hm.1).2.2.2.1
    exact ⟨z1, z2, by have z3' : vS (PL (M.1 500 0) p) (cc + 1) ≤ vE (PL (M.1 500 0) p) := z3; omega, by omega, by omega⟩
  have bad1 : (¬ ∃ p c s, OkS (M.1 500 0) x y z p c s) → E_1072 x y z w M1 (fun (b : Int) (M2 : Mm) => M2.1 10 0 0 = 1 ∧ ((1 : Int) = 0 → M2.2 50 0 0 = (Int32.ofInt b).toInt64) ∧ K M2) := fun hx => by
    refine s_1072_0 (i1050q h c fun M2 m hM => c1070 hM (fun g => ?_) fun _ => ⟨fun _ M3 e3 => ⟨fun h0 => by rw [thr_v e3] at h0; exact absurd h0 (by decide), fun _ => fin1 h hK c (m.set e3 NK0) (thr_v e3) (by decide)⟩, fun hr => absurd rfl hr⟩)
    obtain ⟨p, cc, ho⟩ := g
    obtain ⟨s1, s2, s3, s4, s5⟩ := size hM ho
    obtain ⟨o1, o2, o3, o4⟩ := ho
    rw [s1]
    refine ⟨fun hr => absurd hr (by decide), fun _ => ⟨⟨by omega, by omega, by omega, by omega, by unfold inR; omega⟩, by omega, fun hin => ?_, fun _ M3 e3 => ⟨fun h0 => by rw [thr_v e3] at h0; exact absurd h0 (by decide), fun _ => fin1 h hK c (m.set e3 NK0) (thr_v e3) (by decide)⟩⟩⟩
    have vz := inV_p z 0 (((vS (PL (M.1 500 0) p) (cc + 1) - vS (PL (M.1 500 0) p) cc : Nat) : Int) - 1)
    exact absurd ⟨p, cc, z.toNat, o1, o2, by omega, o3, o4, by omega⟩ hx
  have bad2 : (∃ p c s, OkS (M.1 500 0) x y z p c s) → ¬ (0 ≤ w ∧ w ≤ 1) → E_1072 x y z w M1 (fun (b : Int) (M2 : Mm) => M2.1 10 0 0 = 2 ∧ ((2 : Int) = 0 → M2.2 50 0 0 = (Int32.ofInt b).toInt64) ∧ K M2) := fun hx hw => by
    obtain ⟨p, cc, s, o1, o2, o3, o4, o5, o6⟩ := hx
    refine s_1072_0 (i1050q h c fun M2 m hM => c1070 hM (fun g => ?_) fun g => absurd ⟨p, cc, o1, o2, o4, o5⟩ g)
    obtain ⟨s1, s2, s3, s4, s5⟩ := size hM (p := p) (cc := cc) ⟨o1, o2, o4, o5⟩
    rw [s1]
    have vz := inV_p z 0 (((vS (PL (M.1 500 0) p) (cc + 1) - vS (PL (M.1 500 0) p) cc : Nat) : Int) - 1)
    refine ⟨fun hr => absurd hr (by decide), fun _ => ⟨⟨by omega, by omega, by omega, by omega, by unfold inR; omega⟩, by omega, fun _ b eb M3 e3 => ?_, fun hz => by omega⟩⟩
    rw [if_neg (by omega)] at eb
    rw [eb] at e3
    exact ⟨fun h0 => by rw [thr_v e3] at h0; exact absurd h0 (by decide), fun _ => fin1 h hK c (m.set e3 NK0) (thr_v e3) (by decide)⟩
  refine ⟨fun hv => ?_, fun hv => Or.inl ⟨rfl, bad1 (by rcases hh with ⟨h1, -⟩ | ⟨-, h2⟩; exact absurd hv (by omega); exact h2)⟩⟩
  have hok : ∃ p c s, OkS (M.1 500 0) x y z p c s := by
    rcases hh with ⟨-, h2⟩ | ⟨h1, -⟩
    · exact h2
    · exact absurd h1 hv
  obtain ⟨p, cc, s, o1, o2, o3, o4, o5, o6⟩ := id hok
  generalize hf : M.1 500 0 = f at *
  obtain ⟨hI, hT, hk, -⟩ := hF
  have h12 := hI.le
  obtain ⟨-, hcls⟩ := hk p o4
  have hsok := Sok.of hcls.ok
  have h78 : vN (PL f p) ≤ 78 := hsok.2.2.1
  have h312 : vE (PL f p) ≤ 312 := hsok.2.2.2.1
  have hleE : vS (PL f p) (cc + 1) ≤ vE (PL f p) := hcls.1.1.mono (show cc + 1 ≤ vN (PL f p) by omega) (Nat.le_refl _)
  have ep : phV (M1.1 5 0 11) x = p := by rw [hT.1.1, o1]; exact phV_in (by omega) (by omega)
  have ei : atN 96 (M1.1 300 p) y + z = ((vS (PL f p) cc + s : Nat) : Int) := by
    have := (hcls.2.2.1 cc o5).1
    have this' : M1.1 300 p cc = vS (PL f p) cc := this
    rw [o2, o3, atN_in (by omega), this']; omega
  have hi : vS (PL f p) cc + s < vE (PL f p) := by omega
  obtain ⟨a1, a2, a3, a4⟩ := hcls.at hsok hi
  obtain ⟨hvx, hvy⟩ := vx_side (hsok.2.2.2.2 _ hi).1
  have fin : ∀ v : Int, (0 ≤ w ∧ w ≤ 1) → v = (if w ≠ 0 then vY (PL f p) (vS (PL f p) cc + s) else vX (PL f p) (vS (PL f p) cc + s)) → E_1072 x y z w (setJ M1 50 0 0 ((Int32.ofInt v).toInt64)) (fun (b : Int) (M2 : Mm) => M2.1 10 0 0 = 0 ∧ ((0 : Int) = 0 → M2.2 50 0 0 = (Int32.ofInt b).toInt64) ∧ K M2) := by
    intro v hw ev
    refine s_1072_0 (i1050q h (c.out _) fun M2 m hM => ?_)
    rw [hf] at hM
    refine c1070 hM (fun _ => ?_) fun g => absurd ⟨p, cc, o1, o2, o4, o5⟩ g
    obtain ⟨s1, s2, s3, s4, s5⟩ := size hM (p := p) (cc := cc) ⟨o1, o2, o4, o5⟩
    rw [s1]
    have vz := inV_p z 0 (((vS (PL f p) (cc + 1) - vS (PL f p) cc : Nat) : Int) - 1)
    refine ⟨fun hr => absurd hr (by decide), fun _ => ⟨⟨by omega, by omega, by omega, by omega, by unfold inR; omega⟩, by omega, fun _ b eb M3 e3 => ?_, fun hz => by omega⟩⟩
    rw [if_pos (by omega)] at eb
    rw [eb] at e3
    have m3 := m.set e3 NK0
    have t3 := thr_v e3
    have hM3 : FrM M3 f (nP f) := hM.mx (by rw [e3]; exact Fx.setI (by unfold TMX; omega)) fun q hq => by rw [e3, setI_at, ups_ne (fun z => NK0 (by rw [← z]; exact hq))]
    obtain ⟨gI, gT, gh, gk, -⟩ := hM3
    obtain ⟨-, hm, -⟩ := gk p o4
    have est : stV (M3.1 1125 0) x y = vS (PL f p) cc := by
      unfold stV
      rw [o1, o2, show (161 * (p : Int) + (cc : Int)).toNat = 161 * p + cc by omega]
      exact hm.2.1.2.1 cc (show cc ≤ vN (PL f p) by omega)
    obtain ⟨exx, eyy⟩ := hm.2.1.2.2 (vS (PL f p) cc + s) hi
    have exx' : M3.1 1127 0 (640 * p + (vS (PL f p) cc + s)) = vX (PL f p) (vS (PL f p) cc + s) := exx
    have eyy' : M3.1 1128 0 (640 * p + (vS (PL f p) cc + s)) = vY (PL f p) (vS (PL f p) cc + s) := eyy
    refine ⟨fun _ => ⟨by omega, ⟨by omega, by omega, by omega, by omega⟩, ?_⟩, fun hne => absurd t3 hne⟩
    rw [est]
    refine ⟨⟨by omega, by omega⟩, fun x5 e5 => ⟨fun _ => by omega, fun _ => by omega, fun b3 eb3 => fin0 h hK c m3 t3 ?_⟩⟩
    rw [show x5.toNat = 640 * p + (vS (PL f p) cc + s) by omega, exx', eyy'] at eb3
    rw [eb3, ev]
  rw [ep]
  refine ⟨fun hw => ?_, fun hw => ⟨fun hw1 => ?_, fun hw1 => Or.inr ⟨rfl, bad2 hok (by omega)⟩⟩⟩
  · refine s_210_0 ?_
    rw [ei, a1, a2, a3, a4, hvx, hvy]
    exact ⟨by omega, fun g => absurd hw g, fun _ => fin _ (by omega) (by rw [if_neg (fun g => g hw)])⟩
  · refine s_210_0 ?_
    rw [ei, a1, a2, a3, a4, hvx, hvy]
    exact ⟨by omega, fun _ => fin _ (by omega) (by rw [if_pos hw]), fun g => absurd g hw⟩
theorem k24 {x y z w : Int} (h : Inv M) (hK : ∀ M', Inv M' → K M') : W_1215 x y z w M (fun (r : Int) (M1 : Mm) => E_1073 x y z w M1 (fun (b : Int) (M2 : Mm) => M2.1 10 0 0 = r ∧ (r = 0 → M2.2 50 0 0 = (Int32.ofInt b).toInt64) ∧ K M2)) := by
  refine w_1215 (x_925 (i502 h fun M1 c hF hN => ?_))
  have hh := hs_p hF x y z
  have vw := inV_p w 0 2
  have size : ∀ {M2 : Mm}, FrM M2 (M.1 500 0) (nP (M.1 500 0)) → ∀ {p cc : Nat}, OkC (M.1 500 0) x y p cc → szV (M2.1 1125 0) x y = ((vS (PL (M.1 500 0) p) (cc + 1) - vS (PL (M.1 500 0) p) cc : Nat) : Int) ∧ vS (PL (M.1 500 0) p) cc < vS (PL (M.1 500 0) p) (cc + 1) ∧ vS (PL (M.1 500 0) p) (cc + 1) ≤ 312 ∧ cc < 160 ∧ p < 12 := by
    rintro M2 hM p cc ⟨rfl, rfl, hp, hc⟩
    obtain ⟨gI, gT, gh, gk, -⟩ := hM
    have h12 := gI.le
    obtain ⟨-, hm, -⟩ := gk p hp
    obtain ⟨z1, z2, z3⟩ := hm.sz hc
    have h78 : vN (PL (M.1 500 0) p) ≤ 78 := (Sok.of hm.1).2.2.1
    have h312 : vE (PL (M.1 500 0) p) ≤ 312 := (Sok.of hm.1).2.2.2.1
    exact ⟨z1, z2, by have z3' : vS (PL (M.1 500 0) p) (cc + 1) ≤ vE (PL (M.1 500 0) p) := z3; omega, by omega, by omega⟩
  have bad1 : (¬ ∃ p c s, OkS (M.1 500 0) x y z p c s) → E_1073 x y z w M1 (fun (b : Int) (M2 : Mm) => M2.1 10 0 0 = 1 ∧ ((1 : Int) = 0 → M2.2 50 0 0 = (Int32.ofInt b).toInt64) ∧ K M2) := fun hx => by
    refine s_1073_0 (i1050q h c fun M2 m hM => c1070 hM (fun g => ?_) fun _ => ⟨fun _ M3 e3 => ⟨fun h0 => by rw [thr_v e3] at h0; exact absurd h0 (by decide), fun _ => fin1 h hK c (m.set e3 NK0) (thr_v e3) (by decide)⟩, fun hr => absurd rfl hr⟩)
    obtain ⟨p, cc, ho⟩ := g
    obtain ⟨s1, s2, s3, s4, s5⟩ := size hM ho
    obtain ⟨o1, o2, o3, o4⟩ := ho
    rw [s1]
    refine ⟨fun hr => absurd hr (by decide), fun _ => ⟨⟨by omega, by omega, by omega, by omega, by unfold inR; omega⟩, by omega, fun hin => ?_, fun _ M3 e3 => ⟨fun h0 => by rw [thr_v e3] at h0; exact absurd h0 (by decide), fun _ => fin1 h hK c (m.set e3 NK0) (thr_v e3) (by decide)⟩⟩⟩
    have vz := inV_p z 0 (((vS (PL (M.1 500 0) p) (cc + 1) - vS (PL (M.1 500 0) p) cc : Nat) : Int) - 1)
    exact absurd ⟨p, cc, z.toNat, o1, o2, by omega, o3, o4, by omega⟩ hx
  have bad2 : (∃ p c s, OkS (M.1 500 0) x y z p c s) → ¬ (0 ≤ w ∧ w ≤ 2) → E_1073 x y z w M1 (fun (b : Int) (M2 : Mm) => M2.1 10 0 0 = 2 ∧ ((2 : Int) = 0 → M2.2 50 0 0 = (Int32.ofInt b).toInt64) ∧ K M2) := fun hx hw => by
    obtain ⟨p, cc, s, o1, o2, o3, o4, o5, o6⟩ := hx
    refine s_1073_0 (i1050q h c fun M2 m hM => c1070 hM (fun g => ?_) fun g => absurd ⟨p, cc, o1, o2, o4, o5⟩ g)
    obtain ⟨s1, s2, s3, s4, s5⟩ := size hM (p := p) (cc := cc) ⟨o1, o2, o4, o5⟩
    rw [s1]
    have vz := inV_p z 0 (((vS (PL (M.1 500 0) p) (cc + 1) - vS (PL (M.1 500 0) p) cc : Nat) : Int) - 1)
    refine ⟨fun hr => absurd hr (by decide), fun _ => ⟨⟨by omega, by omega, by omega, by omega, by unfold inR; omega⟩, by omega, fun _ b eb M3 e3 => ?_, fun hz => by omega⟩⟩
    rw [if_neg (by omega)] at eb
    rw [eb] at e3
    exact ⟨fun h0 => by rw [thr_v e3] at h0; exact absurd h0 (by decide), fun _ => fin1 h hK c (m.set e3 NK0) (thr_v e3) (by decide)⟩
  refine ⟨fun hv => ?_, fun hv => Or.inl ⟨rfl, bad1 (by rcases hh with ⟨h1, -⟩ | ⟨-, h2⟩; exact absurd hv (by omega); exact h2)⟩⟩
  have hok : ∃ p c s, OkS (M.1 500 0) x y z p c s := by
    rcases hh with ⟨-, h2⟩ | ⟨h1, -⟩
    · exact h2
    · exact absurd h1 hv
  refine ⟨fun hw => Or.inr ⟨rfl, bad2 hok (by omega)⟩, fun hw => ⟨fun hw2 => ?_, fun hw2 => Or.inr ⟨rfl, bad2 hok (by omega)⟩⟩⟩
  obtain ⟨p, cc, s, o1, o2, o3, o4, o5, o6⟩ := id hok
  generalize hf : M.1 500 0 = f at *
  obtain ⟨hI, hT, hk, -, hvk, hEd, -, -⟩ := hF
  have h12 := hI.le
  obtain ⟨-, hcls⟩ := hk p o4
  have hsok := Sok.of hcls.ok
  have h78 : vN (PL f p) ≤ 78 := hsok.2.2.1
  have h312 : vE (PL f p) ≤ 312 := hsok.2.2.2.1
  have hleE : vS (PL f p) (cc + 1) ≤ vE (PL f p) := hcls.1.1.mono (show cc + 1 ≤ vN (PL f p) by omega) (Nat.le_refl _)
  have ep : phV (M1.1 5 0 11) x = p := by rw [hT.1.1, o1]; exact phV_in (by omega) (by omega)
  have ei : atN 96 (M1.1 300 p) y + z = ((vS (PL f p) cc + s : Nat) : Int) := by
    have := (hcls.2.2.1 cc o5).1
    have this' : M1.1 300 p cc = vS (PL f p) cc := this
    rw [o2, o3, atN_in (by omega), this']; omega
  have hi : vS (PL f p) cc + s < vE (PL f p) := by omega
  rw [ep]
  refine s_210_0 ?_
  rw [ei]
  refine ⟨by omega, ?_⟩
  rw [o1]
  refine c523 hT.1.1 (by omega) (by omega) hcls hsok (EG.of hvk) hEd hi ?_
  refine s_1073_0 (i1050q h (c.out _) fun M2 m hM => ?_)
  rw [hf] at hM
  refine c1070 hM (fun _ => ?_) fun g => absurd ⟨p, cc, rfl, o2, o4, o5⟩ g
  obtain ⟨s1, s2, s3, s4, s5⟩ := size hM (p := p) (cc := cc) ⟨o1, o2, o4, o5⟩
  rw [o1] at s1
  rw [s1]
  have vz := inV_p z 0 (((vS (PL f p) (cc + 1) - vS (PL f p) cc : Nat) : Int) - 1)
  refine ⟨fun hr => absurd hr (by decide), fun _ => ⟨⟨by omega, by omega, by omega, by omega, by unfold inR; omega⟩, by omega, fun _ b eb M3 e3 => ?_, fun hz => by omega⟩⟩
  rw [if_pos (by omega)] at eb
  rw [eb] at e3
  have m3 := m.set e3 NK0
  have t3 := thr_v e3
  have hM3 : FrM M3 f (nP f) := hM.mx (by rw [e3]; exact Fx.setI (by unfold TMX; omega)) fun q hq => by rw [e3, setI_at, ups_ne (fun z => NK0 (by rw [← z]; exact hq))]
  obtain ⟨gI, gT, gh, gk, gv, gE, -⟩ := hM3
  obtain ⟨-, hm, -⟩ := gk p o4
  refine ⟨fun _ => ?_, fun hne => absurd t3 hne⟩
  rw [o2, o3]
  refine c1046 (by omega) hm o5 o6 (EG.of gv) gE fun M4 r4 q1 q2 q3 b3 eb3 => fin0 h hK c (m3.r10 r4 fun q hq => by unfold S41 at hq; unfold NK; omega) (by rw [r4.2 0 (by unfold S41; omega)]; exact t3) ?_
  rw [eb3, q1, q2, q3]
  unfold whV
  by_cases w0 : w = 0
  · rw [if_neg (fun g => g w0), if_pos w0]
  · rw [if_pos w0, if_neg w0]
    by_cases w1 : w = 1
    · rw [if_neg (fun g => g w1), if_pos w1]
    · rw [if_pos w1, if_neg w1]
end Kinds3

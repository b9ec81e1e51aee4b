/-! queries: components, events, branches, robots, counts -/
section Kinds4
variable {M : Mm} {K : Mm → Prop}
theorem smp_v (x y : Nat) : smpV (x : Int) (y : Int) = (smp x y : Nat) := by unfold smpV smp; omega
theorem k25 {x y z : Int} (h : Inv M) (hK : ∀ M', Inv M' → K M') : W_1216 x y z M (fun (r : Int) (M1 : Mm) => E_1075 x y z M1 (fun (b : Int) (M2 : Mm) => M2.1 10 0 0 = r ∧ (r = 0 → M2.2 50 0 0 = (Int32.ofInt b).toInt64) ∧ K M2)) := by
  refine w_1216 (x_926 (i502 h fun M1 c hF hN => ?_))
  have h11 := hF.2.1.1.1
  have h12 := hF.1.le
  rw [h11]
  have hp := hp_p (nP (M.1 500 0) : Int) x
  have hi := isc y z
  have vp := inV_p x 0 ((nP (M.1 500 0) : Int) - 1)
  have vy := inV_p y 0 11
  have vz := inV_p z 0 11
  have bad : ¬ ((0 ≤ x ∧ x < nP (M.1 500 0)) ∧ 0 ≤ y ∧ y < 12 ∧ 0 ≤ z ∧ z < 12) → E_1075 x y z M1 (fun (b : Int) (M2 : Mm) => M2.1 10 0 0 = 1 ∧ ((1 : Int) = 0 → M2.2 50 0 0 = (Int32.ofInt b).toInt64) ∧ K M2) := fun hx => by
    refine s_1075_0 (i1050q h c fun M2 m hM => ?_)
    rw [hM.2.1.1.1]
    have fin : ∀ M3, M3 = setI M2 10 0 0 1 → ∀ b : Int, M3.1 10 0 0 = 1 ∧ ((1 : Int) = 0 → M3.2 50 0 0 = (Int32.ofInt b).toInt64) ∧ K M3 := fun M3 e3 b => fin1 h hK c (m.set e3 NK0) (thr_v e3) (by decide)
    refine ⟨by omega, fun _ M3 e3 => ⟨fun _ => fin M3 e3 0, fun h0 => by rw [thr_v e3] at h0; exact absurd h0 (by decide)⟩, fun _ => ⟨fun _ M3 e3 => ⟨fun _ => fin M3 e3 0, fun h0 => by rw [thr_v e3] at h0; exact absurd h0 (by decide)⟩, fun _ b eb M3 e3 => ?_⟩⟩
    rw [if_pos (by omega)] at eb
    rw [eb] at e3
    exact ⟨fun _ => fin M3 e3 0, fun h0 => by rw [thr_v e3] at h0; exact absurd h0 (by decide)⟩
  refine ⟨fun _ => ⟨rfl, bad (by omega)⟩, fun g1 => ⟨fun g2 => ⟨by omega, ?_⟩, fun _ => ⟨rfl, bad (by omega)⟩⟩⟩
  obtain ⟨p, rfl⟩ : ∃ p : Nat, x = p := ⟨x.toNat, by omega⟩
  obtain ⟨u, rfl⟩ : ∃ u : Nat, y = u := ⟨y.toNat, by omega⟩
  obtain ⟨v, rfl⟩ : ∃ v : Nat, z = v := ⟨z.toNat, by omega⟩
  have hpN : p < nP (M.1 500 0) := by omega
  have hlt := smp_lt (x := u) (y := v) (by omega) (by omega)
  rw [phV_in (by omega) (by omega), smp_v]
  refine c311 (hF.2.2.1 p hpN).1 hlt (s_1075_0 (i1050q h (c.out _) fun M2 m hM => ?_))
  rw [hM.2.1.1.1]
  refine ⟨by omega, fun hz => by omega, fun _ => ⟨fun hz => by omega, fun _ b eb M3 e3 => ?_⟩⟩
  rw [if_neg (by omega)] at eb
  rw [eb] at e3
  refine ⟨fun hne => absurd (thr_v e3) hne, fun _ => ⟨by omega, fin0 h hK c (m.set e3 NK0) (thr_v e3) ?_⟩⟩
  rw [e3, setI_ne (by omega), show (2304 * (p : Int) + 48 * (4 * (v : Int) + 1) + 4 * (u : Int)).toNat = 2304 * p + smp u v by unfold smp; omega]
  exact (hM.2.2.2.1 p hpN).2.2 _ hlt
theorem k26 (h : Inv M) (hK : ∀ M', Inv M' → K M') : E_927 M (fun (r : Int) (M1 : Mm) => E_1078 M1 (fun (b : Int) (M2 : Mm) => r = b ∧ K M2)) := by
  refine s_927_0 (i502 h fun M1 c hF hN => c527 hF hN (s_1078_0 fun M2 e2 => i1050s h c e2 fun M3 m hM => ?_))
  rw [hM.2.1.1.1]
  exact c1077 hM (Nat.le_refl _) ⟨rfl, hK _ (h.q c m)⟩
theorem ev_mono {f : Nat → Int} {i j : Nat} (h : i ≤ j) : evN f i ≤ evN f j := cntB_mono h
theorem c1080_56 {f : Nat → Int} {j : Nat} {w : Int} {M : Mm} {Q : Int → Mm → Prop} (hM : FrM M f (nP f)) (hj : j < nP f) (hb : evB f j = true) (hQ : Q (evV f j w) M) : L_1080_56 (evN f j : Int) w 1 M Q := by
  have h12 := hM.1.le
  have h20 := fun k hk => (hM.2.1.2.1 k hk).1
  have key : ∀ s i : Nat, i + s = j → L_1080_56 (evN f j : Int) w ((i : Int) + 1) M Q := by
    intro s
    induction s with
    | zero =>
      intro i hi
      have e : i = j := by omega
      subst e
      have e1 : evN f (i + 1) = evN f i + 1 := cntB_y hb
      refine s_1080_56 ?_
      rw [show (i : Int) + 1 = ((i + 1 : Nat) : Int) by omega]
      refine c1077 hM (by omega) ⟨fun _ => ?_, fun h => by omega⟩
      rw [show ((i + 1 : Nat) : Int) - 1 = i by omega, Int.toNat_natCast, Int.toNat_natCast, h20 i (by omega), h20 (i + 1) (by omega)]
      unfold evV at hQ
      refine ⟨fun g => ?_, fun g => ⟨by omega, c1037v hM (by omega) ?_⟩, fun g => c1037v hM (by omega) ?_, fun g => ⟨⟨by omega, by omega⟩, ?_⟩, fun g => ⟨by omega, ?_⟩, fun g => ⟨by omega, ?_⟩, fun g => ⟨by omega, ?_⟩⟩
      · rw [if_pos g] at hQ
        rw [show ((i + 1 : Nat) : Int) = (i : Int) + 1 by omega]; exact hQ
      · rw [if_neg (by omega), if_pos g] at hQ; exact hQ
      · rw [if_neg (by omega), if_neg (by omega), if_pos g] at hQ; exact hQ
      · rw [if_neg (by omega), if_neg (by omega), if_neg (by omega), if_pos g] at hQ; exact hQ
      · rw [if_neg (by omega), if_neg (by omega), if_neg (by omega), if_neg (by omega), if_pos g] at hQ; exact hQ
      · rw [if_neg (by omega), if_neg (by omega), if_neg (by omega), if_neg (by omega), if_neg (by omega), if_pos g] at hQ
        exact c1079 (s := false) hM hj hQ
      · rw [if_neg (by omega), if_neg (by omega), if_neg (by omega), if_neg (by omega), if_neg (by omega), if_neg (by omega)] at hQ
        exact c1079 (s := true) hM hj hQ
    | succ s ih =>
      intro i hi
      have hm := ev_mono (f := f) (show i + 1 ≤ j by omega)
      refine s_1080_56 ?_
      have := ih (i + 1) (by omega)
      rw [show (i : Int) + 1 = ((i + 1 : Nat) : Int) by omega]
      exact c1077 hM (by omega) ⟨fun h => by omega, fun _ => ⟨by omega, this⟩⟩
  exact key j 0 (by omega)
theorem k27 {x w : Int} (h : Inv M) (hK : ∀ M', Inv M' → K M') : W_1217 x w M (fun (r : Int) (M1 : Mm) => E_1080 x w M1 (fun (b : Int) (M2 : Mm) => M2.1 10 0 0 = r ∧ (r = 0 → M2.2 50 0 0 = (Int32.ofInt b).toInt64) ∧ K M2)) := by
  refine w_1217 (x_928 (i502 h fun M1 c hF hN => ?_))
  have h12 := hF.1.le
  have hle : evN (M.1 500 0) (nP (M.1 500 0)) ≤ nP (M.1 500 0) := cntB_le _ _
  have vp := inV_p x 0 ((evN (M.1 500 0) (nP (M.1 500 0)) : Int) - 1)
  have vw := inV_p w 0 6
  have bad1 : ¬ (0 ≤ x ∧ x < evN (M.1 500 0) (nP (M.1 500 0))) → E_1080 x w M1 (fun (b : Int) (M2 : Mm) => M2.1 10 0 0 = 1 ∧ ((1 : Int) = 0 → M2.2 50 0 0 = (Int32.ofInt b).toInt64) ∧ K M2) := fun hx => by
    refine s_1080_0 (i1050q h c fun M2 m hM => ?_)
    rw [hM.2.1.1.1]
    refine c1077 hM (Nat.le_refl _) ⟨by omega, fun hin => by omega, fun _ M3 e3 => ⟨fun h0 => by rw [thr_v e3] at h0; exact absurd h0 (by decide), fun _ => fin1 h hK c (m.set e3 NK0) (thr_v e3) (by decide)⟩⟩
  have bad2 : 0 ≤ x → x < evN (M.1 500 0) (nP (M.1 500 0)) → ¬ (0 ≤ w ∧ w ≤ 6) → E_1080 x w M1 (fun (b : Int) (M2 : Mm) => M2.1 10 0 0 = 2 ∧ ((2 : Int) = 0 → M2.2 50 0 0 = (Int32.ofInt b).toInt64) ∧ K M2) := fun hx hx2 hw => by
    refine s_1080_0 (i1050q h c fun M2 m hM => ?_)
    rw [hM.2.1.1.1]
    refine c1077 hM (Nat.le_refl _) ⟨by omega, fun hin b eb M3 e3 => ?_, fun hz => by omega⟩
    rw [if_neg (by omega)] at eb
    rw [eb] at e3
    exact ⟨fun h0 => by rw [thr_v e3] at h0; exact absurd h0 (by decide), fun _ => fin1 h hK c (m.set e3 NK0) (thr_v e3) (by decide)⟩
  refine ⟨fun hx => Or.inl ⟨rfl, bad1 (by omega)⟩, fun hx => c527 hF hN ⟨fun hx2 => ⟨fun hw => Or.inr ⟨rfl, bad2 hx hx2 (by omega)⟩, fun hw => ⟨fun hw2 => ?_, fun hw2 => Or.inr ⟨rfl, bad2 hx hx2 (by omega)⟩⟩⟩, fun hx2 => Or.inl ⟨rfl, bad1 (by omega)⟩⟩⟩
  obtain ⟨e, rfl⟩ : ∃ e : Nat, x = e := ⟨x.toNat, by omega⟩
  obtain ⟨j, j1, j2, j3⟩ := ev_ex (f := M.1 500 0) (N := nP (M.1 500 0)) (e := e) (by omega)
  rw [← j3]
  refine c529 hF hN j1 j2 (s_1080_0 (i1050q h (c.out _) fun M2 m hM => ?_))
  rw [hM.2.1.1.1]
  rw [← j3] at vp
  refine c1077 hM (Nat.le_refl _) ⟨by omega, fun _ b eb M3 e3 => ?_, fun hz => by omega⟩
  rw [if_pos (by omega)] at eb
  rw [eb] at e3
  have hM3 : FrM M3 (M.1 500 0) (nP (M.1 500 0)) := hM.mx (by rw [e3]; exact Fx.setI (by unfold TMX; omega)) fun q hq => by rw [e3, setI_at, ups_ne (fun z => NK0 (by rw [← z]; exact hq))]
  exact ⟨fun _ => c1080_56 hM3 j1 j2 (fin0 h hK c (m.set e3 NK0) (thr_v e3) rfl), fun hne => absurd (thr_v e3) hne⟩
theorem k28 (h : Inv M) (hK : ∀ M', Inv M' → K M') : E_929 M (fun (r : Int) (M1 : Mm) => E_1081 M1 (fun (b : Int) (M2 : Mm) => r = b ∧ K M2)) := by
  refine s_929_0 (i502 h fun M1 c hF hN => s_1081_0 fun M2 e2 => i1050s h c e2 fun M3 m hM => ⟨?_, hK _ (h.q c m)⟩)
  rw [hF.2.2.2.2.2.2.1.1, hM.2.2.2.2.2.2.2.2.1]
theorem k29 {x w : Int} (h : Inv M) (hK : ∀ M', Inv M' → K M') : W_1218 x w M (fun (r : Int) (M1 : Mm) => E_1082 x w M1 (fun (b : Int) (M2 : Mm) => M2.1 10 0 0 = r ∧ (r = 0 → M2.2 50 0 0 = (Int32.ofInt b).toInt64) ∧ K M2)) := by
  refine w_1218 (x_930 (i502 h fun M1 c hF hN => ?_))
  have e10 : M1.1 7 0 10 = (roots (nc (M.1 500 0)) (prK (M.1 500 0))).length := hF.2.2.2.2.2.2.1.1
  have h144 := roots_le hF.1
  rw [e10]
  have vp := inV_p x 0 (((roots (nc (M.1 500 0)) (prK (M.1 500 0))).length : Int) - 1)
  have vw := inV_p w 0 5
  have bad1 : ¬ (0 ≤ x ∧ x < (roots (nc (M.1 500 0)) (prK (M.1 500 0))).length) → E_1082 x w M1 (fun (b : Int) (M2 : Mm) => M2.1 10 0 0 = 1 ∧ ((1 : Int) = 0 → M2.2 50 0 0 = (Int32.ofInt b).toInt64) ∧ K M2) := fun hx => by
    refine s_1082_0 (i1050q h c fun M2 m hM => ?_)
    rw [hM.2.2.2.2.2.2.2.2.1]
    exact ⟨by omega, fun hin => by omega, fun _ M3 e3 => ⟨fun h0 => by rw [thr_v e3] at h0; exact absurd h0 (by decide), fun _ => fin1 h hK c (m.set e3 NK0) (thr_v e3) (by decide)⟩⟩
  have bad2 : 0 ≤ x → x < (roots (nc (M.1 500 0)) (prK (M.1 500 0))).length → ¬ (0 ≤ w ∧ w ≤ 5) → E_1082 x w M1 (fun (b : Int) (M2 : Mm) => M2.1 10 0 0 = 2 ∧ ((2 : Int) = 0 → M2.2 50 0 0 = (Int32.ofInt b).toInt64) ∧ K M2) := fun hx hx2 hw => by
    refine s_1082_0 (i1050q h c fun M2 m hM => ?_)
    rw [hM.2.2.2.2.2.2.2.2.1]
    refine ⟨by omega, fun hin b eb M3 e3 => ?_, fun hz => by omega⟩
    rw [if_neg (by omega)] at eb
    rw [eb] at e3
    exact ⟨fun h0 => by rw [thr_v e3] at h0; exact absurd h0 (by decide), fun _ => fin1 h hK c (m.set e3 NK0) (thr_v e3) (by decide)⟩
  refine ⟨fun hx => Or.inl ⟨rfl, bad1 (by omega)⟩, fun hx => ⟨fun hx2 => ⟨fun hw => Or.inr ⟨rfl, bad2 hx hx2 (by omega)⟩, fun hw => ⟨fun hw2 => ?_, fun hw2 => Or.inr ⟨rfl, bad2 hx hx2 (by omega)⟩⟩⟩, fun hx2 => Or.inl ⟨rfl, bad1 (by omega)⟩⟩⟩
  obtain ⟨i, rfl⟩ : ∃ i : Nat, x = i := ⟨x.toNat, by omega⟩
  have hil : i < (roots (nc (M.1 500 0)) (prK (M.1 500 0))).length := by omega
  obtain ⟨r, hr⟩ : ∃ r, (roots (nc (M.1 500 0)) (prK (M.1 500 0)))[i]? = some r := ⟨_, List.getElem?_eq_getElem hil⟩
  obtain ⟨-, hRec, hWy⟩ := hF.2.2.2.2.2.2.1
  obtain ⟨r0, r1, r2, r3, r4⟩ := hRec i r hr
  rw [Nat.zero_add] at r0 r1 r2 r3 r4
  have fin : ∀ v : Int, (∀ M3 : Mm, FrM M3 (M.1 500 0) (nP (M.1 500 0)) → (w = 0 → M3.1 1145 0 i = v) ∧ (w = 1 → M3.1 1146 0 i = v) ∧ (w = 2 → M3.1 1147 0 i = v) ∧ (w = 3 → M3.1 1148 0 i = v) ∧ (w = 4 → M3.1 1149 0 i = v) ∧ (w = 5 → M3.1 1150 0 i = v)) → E_1082 (i : Int) w (setJ M1 50 0 0 ((Int32.ofInt v).toInt64)) (fun (b : Int) (M2 : Mm) => M2.1 10 0 0 = 0 ∧ ((0 : Int) = 0 → M2.2 50 0 0 = (Int32.ofInt b).toInt64) ∧ K M2) := by
    intro v hv
    refine s_1082_0 (i1050q h (c.out _) fun M2 m hM => ?_)
    rw [hM.2.2.2.2.2.2.2.2.1]
    refine ⟨by omega, fun _ b eb M3 e3 => ?_, fun hz => by omega⟩
    rw [if_pos (by omega)] at eb
    rw [eb] at e3
    have m3 := m.set e3 NK0
    have t3 := thr_v e3
    have hM3 : FrM M3 (M.1 500 0) (nP (M.1 500 0)) := hM.mx (by rw [e3]; exact Fx.setI (by unfold TMX; omega)) fun q hq => by rw [e3, setI_at, ups_ne (fun z => NK0 (by rw [← z]; exact hq))]
    obtain ⟨v0, v1, v2, v3, v4, v5⟩ := hv M3 hM3
    refine ⟨fun _ => ?_, fun hne => absurd t3 hne⟩
    rw [Int.toNat_natCast]
    exact ⟨fun g => ⟨by omega, fin0 h hK c m3 t3 (v0 g)⟩, fun g => ⟨by omega, fin0 h hK c m3 t3 (v1 g)⟩, fun g => ⟨by omega, fin0 h hK c m3 t3 (v2 g)⟩, fun g => ⟨by omega, fin0 h hK c m3 t3 (v3 g)⟩, fun g => ⟨by omega, fin0 h hK c m3 t3 (v4 g)⟩, fun g => ⟨by omega, fin0 h hK c m3 t3 (v5 (by omega))⟩⟩
  have recM : ∀ {M3 : Mm}, FrM M3 (M.1 500 0) (nP (M.1 500 0)) → MecC M3 (nc (M.1 500 0)) (prK (M.1 500 0)) i r := fun hM => by
    have := hM.2.2.2.2.2.2.2.2.2.1 i r hr
    rwa [Nat.zero_add] at this
  refine s_705_0 ⟨fun g => ?_, fun g => ?_, fun g => ?_, fun g => ?_, fun g => ?_, fun g => ?_⟩
  · refine fin _ fun M3 hM => ?_
    obtain ⟨q0, q1, q2, q3, q4⟩ := recM hM
    rw [atN_in (by omega), r0]
    exact ⟨fun _ => q0, fun g => by omega, fun g => by omega, fun g => by omega, fun g => by omega, fun g => by omega⟩
  · refine fin _ fun M3 hM => ?_
    obtain ⟨q0, q1, q2, q3, q4⟩ := recM hM
    rw [atN_in (by omega), r1]
    exact ⟨fun g => by omega, fun _ => q1, fun g => by omega, fun g => by omega, fun g => by omega, fun g => by omega⟩
  · refine fin _ fun M3 hM => ?_
    obtain ⟨q0, q1, q2, q3, q4⟩ := recM hM
    rw [atN_in (by omega), r2]
    exact ⟨fun g => by omega, fun g => by omega, fun _ => q2, fun g => by omega, fun g => by omega, fun g => by omega⟩
  · refine fin _ fun M3 hM => ?_
    obtain ⟨q0, q1, q2, q3, q4⟩ := recM hM
    rw [atN_in (by omega), r3]
    exact ⟨fun g => by omega, fun g => by omega, fun g => by omega, fun _ => q3, fun g => by omega, fun g => by omega⟩
  · refine fin _ fun M3 hM => ?_
    obtain ⟨q0, q1, q2, q3, q4⟩ := recM hM
    rw [atN_in (by omega), r4]
    exact ⟨fun g => by omega, fun g => by omega, fun g => by omega, fun g => by omega, fun _ => q4, fun g => by omega⟩
  · refine fin _ fun M3 hM => ?_
    rw [atN_in (by omega)]
    refine ⟨fun g => by omega, fun g => by omega, fun g => by omega, fun g => by omega, fun g => by omega, fun _ => ?_⟩
    exact Wys.un (fun j hj => by
      have hs : (roots (nc (M.1 500 0)) (prK (M.1 500 0)))[j]? = some ((roots (nc (M.1 500 0)) (prK (M.1 500 0)))[j]'hj) := List.getElem?_eq_getElem hj
      rw [paL_at hs]
      exact (roots_pa hs).2) hM.2.2.2.2.2.2.2.2.2.2 hWy i hil
theorem arc_p (x y z w : Int) : (arcV x y z w = 1 ∧ (0 ≤ x ∧ x < 12 ∧ 0 ≤ y ∧ y < 12) ∧ 0 ≤ z ∧ z < 12 ∧ 0 ≤ w ∧ w < 12) ∨ (arcV x y z w = 0 ∧ ¬ ((0 ≤ x ∧ x < 12 ∧ 0 ≤ y ∧ y < 12) ∧ 0 ≤ z ∧ z < 12 ∧ 0 ≤ w ∧ w < 12)) := by
  unfold arcV
  by_cases q : 0 ≤ x ∧ x ≤ 11 ∧ 0 ≤ y ∧ y ≤ 11 ∧ 0 ≤ z ∧ z ≤ 11 ∧ 0 ≤ w ∧ w ≤ 11
  · rw [if_pos q]; exact Or.inl ⟨rfl, by omega, by omega⟩
  · rw [if_neg q]; exact Or.inr ⟨rfl, by omega⟩
theorem k30 {x y z w : Int} (h : Inv M) (hK : ∀ M', Inv M' → K M') : W_1219 x y z w M (fun (r : Int) (M1 : Mm) => E_1084 x y z w M1 (fun (b : Int) (M2 : Mm) => M2.1 10 0 0 = r ∧ (r = 0 → M2.2 50 0 0 = (Int32.ofInt b).toInt64) ∧ K M2)) := by
  have ha := arc_p x y z w
  have i1 := isc x y
  have i2 := isc z w
  have bad : ¬ ((0 ≤ x ∧ x < 12 ∧ 0 ≤ y ∧ y < 12) ∧ 0 ≤ z ∧ z < 12 ∧ 0 ≤ w ∧ w < 12) → E_1084 x y z w M (fun (b : Int) (M2 : Mm) => M2.1 10 0 0 = 1 ∧ ((1 : Int) = 0 → M2.2 50 0 0 = (Int32.ofInt b).toInt64) ∧ K M2) := fun hx => by
    have c := CQ.rf h
    refine s_1084_0 (i1050q h c fun M2 m hM b eb M3 e3 => ?_)
    rw [if_pos (by omega)] at eb
    rw [eb] at e3
    exact ⟨fun h0 => by rw [thr_v e3] at h0; exact absurd h0 (by decide), fun _ => fin1 h hK c (m.set e3 NK0) (thr_v e3) (by decide)⟩
  refine w_1219 (x_931 ⟨fun g => ⟨rfl, bad (by omega)⟩, fun g1 => ⟨fun g2 => i502 h fun M1 c hF hN => ⟨by omega, by omega, ?_⟩, fun g => ⟨rfl, bad (by omega)⟩⟩⟩)
  obtain ⟨a, rfl⟩ : ∃ a : Nat, x = a := ⟨x.toNat, by omega⟩
  obtain ⟨b, rfl⟩ : ∃ b : Nat, y = b := ⟨y.toNat, by omega⟩
  obtain ⟨u, rfl⟩ : ∃ u : Nat, z = u := ⟨z.toNat, by omega⟩
  obtain ⟨v, rfl⟩ : ∃ v : Nat, w = v := ⟨w.toNat, by omega⟩
  rw [smp_v, smp_v]
  refine c530 hF (smp_lt (by omega) (by omega)) (smp_lt (by omega) (by omega)) (s_1084_0 (i1050q h (c.out _) fun M2 m hM b eb M3 e3 => ?_))
  rw [if_neg (by omega)] at eb
  rw [eb] at e3
  have hM3 : FrM M3 (M.1 500 0) (nP (M.1 500 0)) := hM.mx (by rw [e3]; exact Fx.setI (by unfold TMX; omega)) fun q hq => by rw [e3, setI_at, ups_ne (fun z => NK0 (by rw [← z]; exact hq))]
  exact ⟨fun _ => c1084_39 hM3 (by omega) (by omega) (by omega) (by omega) (fin0 h hK c (m.set e3 NK0) (thr_v e3) rfl), fun hne => absurd (thr_v e3) hne⟩
theorem k31 {x y z u v : Int} (h : Inv M) (hK : ∀ M', Inv M' → K M') : W_1220 x y z u v M (fun (r : Int) (M1 : Mm) => E_1085 x y z u v M1 (fun (b : Int) (M2 : Mm) => M2.1 10 0 0 = r ∧ (r = 0 → M2.2 50 0 0 = (Int32.ofInt b).toInt64) ∧ K M2)) := by
  refine w_1220 (x_932 (i502 h fun M1 c hF hN => ?_))
  have h11 := hF.2.1.1.1
  have h12 := hF.1.le
  rw [h11]
  have hp := hp_p (nP (M.1 500 0) : Int) x
  have vp := inV_p x 0 ((nP (M.1 500 0) : Int) - 1)
  have ha := arc_p y z u v
  have i1 := isc y z
  have i2 := isc u v
  have bad : ¬ ((0 ≤ x ∧ x < nP (M.1 500 0)) ∧ (0 ≤ y ∧ y < 12 ∧ 0 ≤ z ∧ z < 12) ∧ 0 ≤ u ∧ u < 12 ∧ 0 ≤ v ∧ v < 12) → E_1085 x y z u v M1 (fun (b : Int) (M2 : Mm) => M2.1 10 0 0 = 1 ∧ ((1 : Int) = 0 → M2.2 50 0 0 = (Int32.ofInt b).toInt64) ∧ K M2) := fun hx => by
    refine s_1085_0 (i1050q h c fun M2 m hM => ?_)
    rw [hM.2.1.1.1]
    refine ⟨by omega, fun _ M3 e3 => ⟨fun h0 => by rw [thr_v e3] at h0; exact absurd h0 (by decide), fun _ => fin1 h hK c (m.set e3 NK0) (thr_v e3) (by decide)⟩, fun _ b eb M3 e3 => ?_⟩
    rw [if_pos (by omega)] at eb
    rw [eb] at e3
    exact ⟨fun h0 => by rw [thr_v e3] at h0; exact absurd h0 (by decide), fun _ => fin1 h hK c (m.set e3 NK0) (thr_v e3) (by decide)⟩
  refine ⟨fun g => ⟨rfl, bad (by omega)⟩, fun g1 => ⟨fun g => ⟨rfl, bad (by omega)⟩, fun g2 => ⟨fun g3 => ⟨by omega, by omega, ?_⟩, fun g => ⟨rfl, bad (by omega)⟩⟩⟩⟩
  obtain ⟨p, rfl⟩ : ∃ p : Nat, x = p := ⟨x.toNat, by omega⟩
  obtain ⟨a, rfl⟩ : ∃ a : Nat, y = a := ⟨y.toNat, by omega⟩
  obtain ⟨b, rfl⟩ : ∃ b : Nat, z = b := ⟨z.toNat, by omega⟩
  obtain ⟨d, rfl⟩ : ∃ d : Nat, u = d := ⟨u.toNat, by omega⟩
  obtain ⟨e, rfl⟩ : ∃ e : Nat, v = e := ⟨v.toNat, by omega⟩
  have hpN : p < nP (M.1 500 0) := by omega
  rw [smp_v, smp_v]
  refine c531 hF hpN (smp_lt (by omega) (by omega)) (smp_lt (by omega) (by omega)) fun M2 f2 => ?_
  have c2 : CQ M M2 := c.up (f2.up fun t j g => by unfold T801 at g; unfold TCX; omega)
  refine s_1085_0 (i1050q h (c2.out _) fun M3 m hM => ?_)
  rw [hM.2.1.1.1]
  refine ⟨by omega, fun hz => by omega, fun _ bb eb M4 e4 => ?_⟩
  rw [if_neg (by omega)] at eb
  rw [eb] at e4
  have m4 := m.set e4 NK0
  have t4 := thr_v e4
  have hM4 : FrM M4 (M.1 500 0) (nP (M.1 500 0)) := hM.mx (by rw [e4]; exact Fx.setI (by unfold TMX; omega)) fun q hq => by rw [e4, setI_at, ups_ne (fun z => NK0 (by rw [← z]; exact hq))]
  have hPh := (hM4.2.2.2.1 p hpN).1
  refine ⟨fun _ => ⟨⟨by omega, by omega, by omega⟩, by omega, ?_⟩, fun hne => absurd t4 hne⟩
  rw [isV_P (lay_g (M.1 500 0) (2 * p + 1)) hPh]
  have e1 : ((smp a b % 48 : Nat) : Int) = 4 * (a : Int) := by unfold smp; omega
  have e2 : ((smp a b / 48 : Nat) : Int) = 4 * (b : Int) + 1 := by unfold smp; omega
  refine ⟨fun hn => ?_, fun hz => ?_⟩
  · have hP := b2i_n.mp hn
    refine c1085_69 hM4 hpN (by omega) (by omega) (by omega) (by omega) (by rw [e1, e2]; exact hP) fun M5 f5 => fin0 h hK c2 (m4.st (f5.up fun t j g => by unfold T1085 at g; unfold TMX; omega) fun q _ => by rw [(f5 10 0 (by unfold T1085; omega)).1]) (by rw [(f5 10 0 (by unfold T1085; omega)).1]; exact t4) rfl
  · have hP := b2i_0.mp hz
    refine fin0 h hK c2 m4 t4 ?_
    unfold pthV
    rw [e1, e2, if_neg (fun g => by
      have g' : lay (M.1 500 0) (2 * p + 1) (4 * (a : Int)) (4 * (b : Int) + 1) = true := g
      rw [hP] at g'; cases g')]
theorem c402 {i : Nat} {M : Mm} {Q : Int → Mm → Prop} (hR : R12 (M.1 500 i)) (hQ : Q (sizeV (M.1 500 i)) M) : E_402 i M Q := Ev.mono (e402 hR) fun v M' g => ⟨sizeV (M.1 500 i), g.2, by rw [g.1]; exact hQ⟩
theorem size_cg {f g : Nat → Int} (h : ∀ y, y < 12 → f y = g y) : sizeV f = sizeV g := sumN_congr fun y hy => by
  unfold popV
  rw [h y hy]
theorem k4 (h : Inv M) (hK : ∀ M', Inv M' → K M') : E_905 M (fun (r : Int) (M1 : Mm) => E_1023 M1 (fun (b : Int) (M2 : Mm) => r = b ∧ K M2)) := by
  have c := CQ.rf h
  refine s_905_0 (s_1023_0 fun M2 e2 => ⟨?_, hK _ (h.q c ((RQ.rf (c.mi h)).set e2 NK0))⟩)
  obtain ⟨l, -, -, -, -, h5⟩ := h.2.2.2.1
  rw [e2, setI_at, ups_ne (by omega), h5]
theorem k32 {x : Int} (h : Inv M) (hK : ∀ M', Inv M' → K M') : W_1221 x M (fun (r : Int) (M1 : Mm) => E_1086 x M1 (fun (b : Int) (M2 : Mm) => M2.1 10 0 0 = r ∧ (r = 0 → M2.2 50 0 0 = (Int32.ofInt b).toInt64) ∧ K M2)) := by
  have c := CQ.rf h
  have v1 := inV_p x 0 3
  obtain ⟨s, u, r, ⟨-, -, a1, a2, a3, a4, -⟩, -⟩ := h.2.2.1
  obtain ⟨l, l1, -, l2, -⟩ := h.2.2.2.1
  have fin : ∀ v : Int, (0 ≤ x ∧ x ≤ 3) → (∀ M2 : Mm, M2.1 1101 0 = M.1 1101 0 → (∀ q, q ≠ 0 → M2.1 10 0 q = M.1 10 0 q) → (x = 0 → sizeV (M2.1 1101 0) = v) ∧ (x = 1 → M2.1 10 0 6 = v) ∧ (x = 2 → M2.1 10 0 7 = v) ∧ (x = 3 → M2.1 10 0 11 = v)) → E_1086 x (setJ M 50 0 0 ((Int32.ofInt v).toInt64)) (fun (b : Int) (M2 : Mm) => M2.1 10 0 0 = 0 ∧ ((0 : Int) = 0 → M2.2 50 0 0 = (Int32.ofInt b).toInt64) ∧ K M2) := by
    intro v hx hv
    refine s_1086_0 fun b eb M2 e2 => ?_
    rw [if_neg (by omega)] at eb
    rw [eb] at e2
    have m := (RQ.rf ((c.out ((Int32.ofInt v).toInt64)).mi h)).set e2 NK0
    have t2 := thr_v e2
    have e1101 : M2.1 1101 0 = M.1 1101 0 := by rw [e2, setI_ne (by omega)]; rfl
    obtain ⟨v0, w1, v2, v3⟩ := hv M2 e1101 fun q hq => by rw [e2, setI_at, ups_ne hq]; rfl
    exact ⟨fun g => c1005 (by rw [e1101]; exact h.1.1.cg h.1.2) (fin0 h hK c m t2 (v0 g)), fun g => fin0 h hK c m t2 (w1 g), fun g => fin0 h hK c m t2 (v2 g), fun g => fin0 h hK c m t2 (v3 g), fun g => by omega⟩
  refine w_1221 (x_933 ⟨fun g => c402 h.1.1 (fin _ (by omega) fun M2 e1 e2 => ⟨fun _ => ?_, fun g => by omega, fun g => by omega, fun g => by omega⟩), fun g => fin _ (by omega) fun M2 e1 e2 => ⟨fun g => by omega, fun _ => ?_, fun g => by omega, fun g => by omega⟩, fun g => fin _ (by omega) fun M2 e1 e2 => ⟨fun g => by omega, fun g => by omega, fun _ => ?_, fun g => by omega⟩, fun g => fin _ (by omega) fun M2 e1 e2 => ⟨fun g => by omega, fun g => by omega, fun g => by omega, fun _ => ?_⟩, fun g => ⟨rfl, ?_⟩⟩)
  · rw [e1]; exact size_cg h.1.2
  · rw [e2 6 (by omega), a3, a1]
  · rw [e2 7 (by omega), a4, a2]
  · rw [e2 11 (by omega), l2, l1]
  · refine s_1086_0 fun b eb M2 e2 => ?_
    rw [if_pos (by omega)] at eb
    rw [eb] at e2
    exact ⟨fun g => by omega, fun g => by omega, fun g => by omega, fun g => by omega, fun _ => fin1 h hK c ((RQ.rf (c.mi h)).set e2 NK0) (thr_v e2) (by decide)⟩
end Kinds4

section Kinds5
variable {M : Mm} {K : Mm → Prop}
theorem k0 {x1 x2 x3 x4 x5 : Int} (h : Inv M) (hK : ∀ M', Inv M' → K M') : W_1200 x1 x2 x3 x4 x5 M (fun (r : Int) (M1 : Mm) => E_1010 x1 x2 x3 x4 x5 M1 (fun (b : Int) (M2 : Mm) => M2.1 10 0 0 = r ∧ (r = 0 → M2.2 50 0 0 = (Int32.ofInt b).toInt64) ∧ K M2)) := by
  have i1 := isc x2 x3
  have v1 := inV_p x1 0 2
  have v2 := inV_p x2 0 11
  have v3 := inV_p x3 0 11
  have v4 := inV_p x4 1 (12 - x2)
  have v5 := inV_p x5 1 (12 - x3)
  have c := CQ.rf h
  have st : ∀ {M1 M2 : Mm} {v : Int}, M1 = setI M 10 0 0 0 → M2 = setI M1 10 0 0 v → v ≠ 0 → ∀ b : Int, M2.1 10 0 0 = v ∧ (v = 0 → M2.2 50 0 0 = (Int32.ofInt b).toInt64) ∧ K M2 := fun e1 e2 hv b => fin1 h hK c (((RQ.rf (c.mi h)).set e1 NK0).set e2 NK0) (thr_v e2) hv
  have bad1 : ¬ (0 ≤ x1 ∧ x1 ≤ 2) → E_1010 x1 x2 x3 x4 x5 M (fun (b : Int) (M2 : Mm) => M2.1 10 0 0 = 1 ∧ ((1 : Int) = 0 → M2.2 50 0 0 = (Int32.ofInt b).toInt64) ∧ K M2) := fun hx => s_1010_0 fun M1 e1 => ⟨fun hz => by omega, fun _ M2 e2 => st e1 e2 (by decide) 0⟩
  have bad2 : 0 ≤ x1 → x1 ≤ 2 → ¬ ((0 ≤ x2 ∧ x2 < 12 ∧ 0 ≤ x3 ∧ x3 < 12) ∧ (1 ≤ x4 ∧ x4 ≤ 12 - x2) ∧ 1 ≤ x5 ∧ x5 ≤ 12 - x3) → E_1010 x1 x2 x3 x4 x5 M (fun (b : Int) (M2 : Mm) => M2.1 10 0 0 = 2 ∧ ((2 : Int) = 0 → M2.2 50 0 0 = (Int32.ofInt b).toInt64) ∧ K M2) := fun h1 h2 hx => s_1010_0 fun M1 e1 => ⟨fun _ => ⟨fun _ M2 e2 => st e1 e2 (by decide) 0, fun z2 => ⟨fun _ M2 e2 => st e1 e2 (by decide) 0, fun z3 => ⟨by omega, fun _ M2 e2 => st e1 e2 (by decide) 0, fun z4 => ⟨by omega, fun z5 => by omega, fun _ M2 e2 => st e1 e2 (by decide) 0⟩⟩⟩⟩, fun hz => by omega⟩
  refine w_1200 (x_901 ⟨fun _ => Or.inl ⟨rfl, bad1 (by omega)⟩, fun g1 => ⟨fun g2 => ⟨fun g => Or.inr ⟨rfl, bad2 g1 g2 (by omega)⟩, fun g3 => ⟨fun g => Or.inr ⟨rfl, bad2 g1 g2 (by omega)⟩, fun g4 => ⟨by omega, fun g => Or.inr ⟨rfl, bad2 g1 g2 (by omega)⟩, fun g5 => ⟨fun g => Or.inr ⟨rfl, bad2 g1 g2 (by omega)⟩, fun g6 => ⟨by omega, fun g7 => ?_, fun g => Or.inr ⟨rfl, bad2 g1 g2 (by omega)⟩⟩⟩⟩⟩⟩, fun g => Or.inl ⟨rfl, bad1 (by omega)⟩⟩⟩)
  obtain ⟨s, u, r, ⟨a1, a2, a3, a4, a5, a6, a7⟩, -⟩ := h.2.2.1
  refine c405 (by omega) (by omega) (by omega) (by omega) (by omega) (by omega) fun M1 f1 h1 => ?_
  have hR1 : R12 (M1.1 500 0) := (ch_12 h.1.1 (by omega) (by omega) (by omega)).cg h1
  have e1 : M1.1 1 0 = M.1 1 0 := (f1 1 0 (by omega)).1
  refine c934 (s := s) (u := u) (by rw [e1]; exact a1) a2 (by rw [e1]; exact a3) (by omega) fun M2 f2 rc z => ?_
  rw [(f1 200 0 (by omega)).1] at rc
  have e3 : M2.1 500 0 = M1.1 500 0 := (f2 500 0 (by omega)).1
  have hR2 : R12 (M2.1 500 0) := by rw [e3]; exact hR1
  have c2 : Fx TCc M M2 := (f1.up fun t j g => by unfold TCc; omega).tr (f2.up fun t j g => by unfold TCc; omega)
  refine c402 hR2 (s_1010_0 fun M3 q3 => ⟨fun _ => ⟨fun g => by omega, fun _ => ⟨fun g => by omega, fun _ => ⟨by omega, fun g => by omega, fun _ => ⟨by omega, fun _ => ?_, fun g => by omega⟩⟩⟩⟩, fun g => by omega⟩)
  have c3 : Fx TCc M (setJ M2 50 0 0 ((Int32.ofInt (sizeV (M2.1 500 0))).toInt64)) := c2.tr (Fx.setJ (Or.inr rfl))
  generalize hX : setJ M2 50 0 0 ((Int32.ofInt (sizeV (M2.1 500 0))).toInt64) = X at q3 c3
  have x1 : X.1 = M2.1 := by rw [← hX]; rfl
  have f3 : Fx (fun t j => t = 10 ∧ j = 0) X M3 := by rw [q3]; exact Fx.setI ⟨rfl, rfl⟩
  refine c1006_1101_1105 (x := 0) (z := 0) (by omega) (by omega) fun M4 f4 h4 _ => ?_
  refine c1009 (by omega) (by omega) (by omega) (by omega) (by omega) (by omega) fun M5 f5 h5 => ?_
  have m5 : Fx (fun t j => (t = 10 ∨ t = 1105 ∨ t = 1115) ∧ j = 0) X M5 := (f3.up fun t j g => by omega).tr ((f4.up fun t j g => by omega).tr (f5.up fun t j g => by omega))
  have k5 : ∀ q, q ≠ 0 → M5.1 10 0 q = X.1 10 0 q := fun q hq => by rw [(f5 10 0 (by omega)).1, (f4 10 0 (by omega)).1, q3, setI_at, ups_ne hq]
  have h1101 : M3.1 1101 0 = M.1 1101 0 := by rw [(f3 1101 0 (by omega)).1]; exact (c3 1101 0 (by unfold TCc; omega)).1
  have g5 : ∀ y, y < 12 → M5.1 1105 0 y = X.1 500 0 y := fun y hy => by
    rw [h5 y hy, x1, e3, h1 y hy]
    refine ch_cg (fun q hq => ?_) y hy
    have := h4 q hq
    rw [Nat.zero_add] at this
    rw [this, h1101]
    exact h.1.2 q hq
  refine rend h a1 a3 (by omega) c3 (by unfold RcC; rw [x1]; exact rc) (by rw [x1]; exact z) (by rw [x1]; exact hR2) m5 (fun q hq => k5 q (by omega)) ?_ g5 fun M6 f6 k6 hR6 he6 i6 => c1005 hR6 ⟨?_, fun _ => ?_, hK _ i6⟩
  · refine h.2.2.2.1.fx ⟨?_, ?_, ?_⟩ ⟨?_, ?_⟩
    · rw [(m5 6 0 (by omega)).1, x1, (f2 6 0 (by omega)).1, (f1 6 0 (by omega)).1]
    · rw [(m5 700 0 (by omega)).1, x1, (f2 700 0 (by omega)).1, (f1 700 0 (by omega)).1]
    · rw [(m5 1110 0 (by omega)).1, x1, (f2 1110 0 (by omega)).1, (f1 1110 0 (by omega)).1]
    · rw [k5 11 (by omega), (c3 10 0 (by unfold TCc; omega)).1]
    · rw [k5 12 (by omega), (c3 10 0 (by unfold TCc; omega)).1]
  · rw [k6, (f5 10 0 (by omega)).1, (f4 10 0 (by omega)).1]; exact thr_v q3
  · rw [(f6 50 0 (by unfold TMc; omega)).2, (m5 50 0 (by omega)).2, ← hX, setJ_at, upj_at, size_cg he6, x1]
theorem k1 (h : Inv M) (hK : ∀ M', Inv M' → K M') : E_902 M (fun (r : Int) (M1 : Mm) => E_1011 M1 (fun (b : Int) (M2 : Mm) => r = b ∧ K M2)) := by
  obtain ⟨s, u, r, ⟨a1, a2, a3, a4, a5, a6, a7⟩, -⟩ := h.2.2.1
  refine s_902_0 (c402 h.1.1 (Ev.mono e403 fun v M1 g => ⟨g.2, ?_⟩))
  have f1 : Fx (fun t j => t = 500 ∧ j = 0) M M1 := by rw [g.1]; exact Fx.setA ⟨rfl, rfl⟩
  have h1 : ∀ y, y < 12 → M1.1 500 0 y = 0 := fun y hy => by rw [g.1, setA_at]; exact if_pos hy
  have e1 : M1.1 1 0 = M.1 1 0 := (f1 1 0 (by omega)).1
  refine c934 (s := s) (u := u) (by rw [e1]; exact a1) a2 (by rw [e1]; exact a3) (by omega) fun M2 f2 rc z => ?_
  rw [(f1 200 0 (by omega)).1] at rc
  have e3 : M2.1 500 0 = M1.1 500 0 := (f2 500 0 (by omega)).1
  have hR2 : R12 (M2.1 500 0) := fun y hy => by rw [e3, h1 y hy]; omega
  have c2 : Fx TCc M M2 := (f1.up fun t j g => by unfold TCc; omega).tr (f2.up fun t j g => by unfold TCc; omega)
  have h1101 : M2.1 1101 0 = M.1 1101 0 := (c2 1101 0 (by unfold TCc; omega)).1
  refine s_1011_0 fun M3 q3 => c1005 (by rw [q3, setI_ne (by omega), h1101]; exact h.1.1.cg h.1.2) ?_
  have x3 : M3.1 1101 0 = M.1 1101 0 := by rw [q3, setI_ne (by omega), h1101]
  rw [x3, size_cg h.1.2]
  have f3 : Fx (fun t j => t = 10 ∧ j = 0) M2 M3 := by rw [q3]; exact Fx.setI ⟨rfl, rfl⟩
  have key := lp_up (P := fun k => ∀ M', (Fx (fun t j => t = 1105 ∧ j = 0) M3 M' ∧ ∀ y, y < k → M'.1 1105 0 y = 0) → L_1011_12 (sizeV (M.1 500 0)) (k : Int) M' (fun (b : Int) (M2 : Mm) => sizeV (M.1 500 0) = b ∧ K M2)) 12 ?_ ?_
  · exact key M3 ⟨Fx.rf, fun y hy => absurd hy (Nat.not_lt_zero y)⟩
  · intro k hk ih M4 ⟨f4, h4⟩
    refine s_1011_12 ⟨fun g => by omega, fun _ => ⟨by omega, fun M5 e => ⟨by omega, ?_⟩⟩⟩
    refine ih M5 ⟨f4.tr (by rw [e]; exact Fx.setI ⟨rfl, rfl⟩), fun y hy => ?_⟩
    rw [e, setI_at, Int.toNat_natCast]
    by_cases g : y = k
    · subst g; rw [ups_at]
    · rw [ups_ne g]; exact h4 y (by omega)
  · intro M4 ⟨f4, h4⟩
    have m4 : Fx (fun t j => (t = 10 ∨ t = 1105 ∨ t = 1115) ∧ j = 0) M2 M4 := (f3.up fun t j g => by omega).tr (f4.up fun t j g => by omega)
    have k4 : ∀ q, q ≠ 0 → M4.1 10 0 q = M2.1 10 0 q := fun q hq => by rw [(f4 10 0 (by omega)).1, q3, setI_at, ups_ne hq]
    refine s_1011_12 ⟨fun _ => rend h a1 a3 (by omega) c2 rc z hR2 m4 (fun q hq => k4 q (by omega)) ?_ (fun y hy => by rw [h4 y hy, e3, h1 y hy]) fun M6 f6 k6 hR6 he6 i6 => ⟨rfl, hK _ i6⟩, fun g => by omega⟩
    refine h.2.2.2.1.fx ⟨?_, ?_, ?_⟩ ⟨?_, ?_⟩
    · rw [(m4 6 0 (by omega)).1, (f2 6 0 (by omega)).1, (f1 6 0 (by omega)).1]
    · rw [(m4 700 0 (by omega)).1, (f2 700 0 (by omega)).1, (f1 700 0 (by omega)).1]
    · rw [(m4 1110 0 (by omega)).1, (f2 1110 0 (by omega)).1, (f1 1110 0 (by omega)).1]
    · rw [k4 11 (by omega), (c2 10 0 (by unfold TCc; omega)).1]
    · rw [k4 12 (by omega), (c2 10 0 (by unfold TCc; omega)).1]
theorem k8 (h : Inv M) (hK : ∀ M', Inv M' → K M') : W_1205 M (fun (r : Int) (M1 : Mm) => E_1015 M1 (fun (b : Int) (M2 : Mm) => M2.1 10 0 0 = r ∧ (r = 0 → M2.2 50 0 0 = (Int32.ofInt b).toInt64) ∧ K M2)) := by
  obtain ⟨s, u, r, ⟨a1, a2, a3, a4, a5, a6, a7⟩, -⟩ := h.2.2.1
  obtain ⟨w1, w2, w3, w4⟩ := h.2.1
  have c := CQ.rf h
  refine w_1205 (x_909 ⟨fun g9 => ?_, fun g9 => ⟨rfl, s_1015_0 fun M1 e1 => ⟨fun g => absurd (by rw [e1, setI_at, ups_ne (by omega), w3, g9]) g, fun _ M2 e2 => fin1 h hK c (((RQ.rf (c.mi h)).set e1 NK0).set e2 NK0) (thr_v e2) (by decide)⟩⟩⟩)
  have g9' : M.1 9 0 6 = 1 := by omega
  refine c404 (by omega) fun M1 f1 h1 => ?_
  have hR1 : R12 (M1.1 500 0) := w1.cg h1
  have e1 : M1.1 1 0 = M.1 1 0 := (f1 1 0 (by omega)).1
  refine c934 (s := s) (u := u) (by rw [e1]; exact a1) a2 (by rw [e1]; exact a3) (by omega) fun M2 f2 rc z => ?_
  rw [(f1 200 0 (by omega)).1] at rc
  have e3 : M2.1 500 0 = M1.1 500 0 := (f2 500 0 (by omega)).1
  have hR2 : R12 (M2.1 500 0) := by rw [e3]; exact hR1
  have c2 : Fx TCc M M2 := (f1.up fun t j g => by unfold TCc; omega).tr (f2.up fun t j g => by unfold TCc; omega)
  have x8 : M2.1 10 0 8 = 1 := by rw [(c2 10 0 (by unfold TCc; omega)).1, w3, g9']
  refine c402 hR2 (s_1015_0 fun M3 q3 => ⟨fun _ => ?_, fun g => absurd g (by rw [q3, setI_at, ups_ne (by omega)]; show ¬ M2.1 10 0 8 = 0; omega)⟩)
  have c3 : Fx TCc M (setJ M2 50 0 0 ((Int32.ofInt (sizeV (M2.1 500 0))).toInt64)) := c2.tr (Fx.setJ (Or.inr rfl))
  generalize hX : setJ M2 50 0 0 ((Int32.ofInt (sizeV (M2.1 500 0))).toInt64) = X at q3 c3
  have x1 : X.1 = M2.1 := by rw [← hX]; rfl
  have f3 : Fx (fun t j => t = 10 ∧ j = 0) X M3 := by rw [q3]; exact Fx.setI ⟨rfl, rfl⟩
  refine c1006_1104_1105 (x := 0) (z := 0) (by omega) (by omega) fun M5 f5 h5 _ => ?_
  have m5 : Fx (fun t j => (t = 10 ∨ t = 1105 ∨ t = 1115) ∧ j = 0) X M5 := (f3.up fun t j g => by omega).tr (f5.up fun t j g => by omega)
  have k5 : ∀ q, q ≠ 0 → M5.1 10 0 q = X.1 10 0 q := fun q hq => by rw [(f5 10 0 (by omega)).1, q3, setI_at, ups_ne hq]
  have h1104 : M3.1 1104 0 = M.1 1104 0 := by rw [(f3 1104 0 (by omega)).1]; exact (c3 1104 0 (by unfold TCc; omega)).1
  have g5 : ∀ y, y < 12 → M5.1 1105 0 y = X.1 500 0 y := fun y hy => by
    have := h5 y hy
    rw [Nat.zero_add] at this
    rw [this, h1104, w4 g9' y hy, x1, e3, h1 y hy]
  refine rend h a1 a3 (by omega) c3 (by unfold RcC; rw [x1]; exact rc) (by rw [x1]; exact z) (by rw [x1]; exact hR2) m5 (fun q hq => k5 q (by omega)) ?_ g5 fun M6 f6 k6 hR6 he6 i6 => c1005 hR6 ⟨?_, fun _ => ?_, hK _ i6⟩
  · refine h.2.2.2.1.fx ⟨?_, ?_, ?_⟩ ⟨?_, ?_⟩
    · rw [(m5 6 0 (by omega)).1, x1, (f2 6 0 (by omega)).1, (f1 6 0 (by omega)).1]
    · rw [(m5 700 0 (by omega)).1, x1, (f2 700 0 (by omega)).1, (f1 700 0 (by omega)).1]
    · rw [(m5 1110 0 (by omega)).1, x1, (f2 1110 0 (by omega)).1, (f1 1110 0 (by omega)).1]
    · rw [k5 11 (by omega), (c3 10 0 (by unfold TCc; omega)).1]
    · rw [k5 12 (by omega), (c3 10 0 (by unfold TCc; omega)).1]
  · rw [k6, (f5 10 0 (by omega)).1]; exact thr_v q3
  · rw [(f6 50 0 (by unfold TMc; omega)).2, (m5 50 0 (by omega)).2, ← hX, setJ_at, upj_at, size_cg he6, x1]
end Kinds5

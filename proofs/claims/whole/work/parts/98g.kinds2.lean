section Kinds6
variable {M : Mm} {K : Mm → Prop}
theorem k2 {x : Int} (h : Inv M) (hK : ∀ M', Inv M' → K M') : W_1201 x M (fun (r : Int) (M1 : Mm) => E_1016 x M1 (fun (b : Int) (M2 : Mm) => M2.1 10 0 0 = r ∧ (r = 0 → M2.2 50 0 0 = (Int32.ofInt b).toInt64) ∧ K M2)) := by
  obtain ⟨l, t1, t2, t3, t4, t5⟩ := h.2.2.2.1
  have bad : ∀ {M2 : Mm} {v : Int}, Fx (fun t j => t = 10 ∧ j = 0) M M2 → M2.1 10 0 = ups (M.1 10 0) 0 v → v ≠ 0 → ∀ b : Int, M2.1 10 0 0 = v ∧ (v = 0 → M2.2 50 0 0 = (Int32.ofInt b).toInt64) ∧ K M2 := fun {M2} {v} f e hv b => ⟨by rw [e, ups_at], fun z => absurd z hv, hK _ (h.soft (f.up fun t j g => by omega) (fun q hq => by rw [e, ups_ne (by omega)]) (h.2.2.2.1.fx ⟨(f 6 0 (by omega)).1, (f 700 0 (by omega)).1, (f 1110 0 (by omega)).1⟩ ⟨by rw [e, ups_ne (by omega)], by rw [e, ups_ne (by omega)]⟩))⟩
  refine w_1201 (x_903 (c601 (fun ok => ⟨fun _ => c602 ⟨?_, fun g => ?_, fun g => ?_⟩, fun z => absurd z (by decide)⟩) fun no => ⟨fun z => absurd rfl z, fun _ => Or.inl ⟨rfl, ?_⟩⟩))
  · have := txN_le x 4
    omega
  · have hle : l + txN x 4 ≤ 60 := by omega
    refine c603 t1 hle fun M1 f1 h3 hq hs => ?_
    rw [h3]
    have c1 : Fx (fun t j => (t = 6 ∨ t = 700) ∧ j = 0 ∨ t = 50) M (setJ M1 50 0 0 ((Int32.ofInt ((l + txN x 4 : Nat) : Int)).toInt64)) := (f1.up fun t j g => Or.inl g).tr (Fx.setJ (Or.inr rfl))
    generalize hX : setJ M1 50 0 0 ((Int32.ofInt ((l + txN x 4 : Nat) : Int)).toInt64) = X at c1 ⊢
    have x1 : X.1 = M1.1 := by rw [← hX]; rfl
    have x10 : X.1 10 0 = M.1 10 0 := (c1 10 0 (by omega)).1
    have x11 : X.1 1110 0 = M.1 1110 0 := (c1 1110 0 (by omega)).1
    refine c1016 (l := l) (by rw [x10]; exact t3) t2 (fun no => absurd ok no) (fun _ g => by omega) fun _ _ M2 f2 h0 h11 hq2 hs2 => ?_
    rw [x11] at hs2
    refine ⟨h0, fun _ => ?_, hK _ (h.soft ((c1.up fun t j g => by omega).tr (f2.up fun t j g => by omega)) (fun q hq => by rw [hq2 q (by omega) (by omega), x10]) ⟨l + txN x 4, ?_, hle, h11, fun i hi => ?_, ?_⟩)⟩
    · rw [(f2 50 0 (by omega)).2, ← hX, setJ_at, upj_at]
    · rw [(f2 6 0 (by omega)).1, x1, h3]
    · rw [(f2 700 0 (by omega)).1, x1, hs, hs2]
      exact apS_cg t4 4 i hi
    · rw [hq2 12 (by omega) (by omega), x10, t5, (f2 6 0 (by omega)).1, x1, hq 4 (by omega)]
  · refine Or.inr ⟨rfl, c1016 (l := l) t3 t2 (fun no => absurd ok no) (fun _ _ M2 f e => bad f e (by decide) 0) fun _ g => by omega⟩
  · exact c1016 (l := l) t3 t2 (fun _ M2 f e => bad f e (by decide) 0) (fun ok => absurd ok no) fun ok => absurd ok no
theorem k3 (h : Inv M) (hK : ∀ M', Inv M' → K M') : W_1202 M (fun (r : Int) (M1 : Mm) => E_1022 M1 (fun (b : Int) (M2 : Mm) => M2.1 10 0 0 = r ∧ (r = 0 → M2.2 50 0 0 = (Int32.ofInt b).toInt64) ∧ K M2)) := by
  obtain ⟨l, t1, t2, t3, t4, t5⟩ := h.2.2.2.1
  obtain ⟨s, u, r, ⟨a1, a2, a3, a4, a5, a6, a7⟩, -⟩ := h.2.2.1
  have ecg : rdP (M.1 1110 0) l 30 0 = rdP (M.1 700 0) l 30 0 := rdP_cg (chr_cg t4) 30 0
  have hRm : R12 (M.1 1101 0) := h.1.1.cg h.1.2
  refine w_1202 (x_904 (c604 t2 rfl t1 (fun e he M1 f1 h3 h4 => ⟨fun z => absurd rfl z, fun _ => ⟨rfl, ?_⟩⟩) fun cs he M1 f1 h3 h4 h5 h30 hl => ⟨fun _ => s_612_0 ?_, fun z => absurd z (by decide)⟩))
  · unfold FT at f1
    have x10 : M1.1 10 0 = M.1 10 0 := (f1 10 0 (by omega)).1
    have x11 : M1.1 1110 0 = M.1 1110 0 := (f1 1110 0 (by omega)).1
    have x01 : M1.1 1101 0 = M.1 1101 0 := (f1 1101 0 (by omega)).1
    refine c1022 (s := M.1 1110 0) (len := l) (f := M.1 1101 0) t2 x11 (by rw [x10]; exact t3) x01 hRm (fun e' he' M2 f2 g0 g11 g12 gq => ?_) fun cs he' => ?_
    · have : e' = e := by
        rw [ecg, he] at he'
        cases he'
        rfl
      subst this
      refine ⟨g0, fun z => absurd z (by decide), hK _ (h.soft ((f1.up fun t j g => by omega).tr (f2.up fun t j g => by omega)) (fun q hq => by rw [gq q (by unfold S34; omega) (by omega) (by omega) (by omega), x10]) ⟨0, ?_, by omega, ?_, fun i hi => absurd hi (Nat.not_lt_zero i), ?_⟩)⟩
      · rw [(f2 6 0 (by omega)).1, h3]; rfl
      · rw [g11]; rfl
      · rw [g12, (f2 6 0 (by omega)).1, h4]
    · rw [ecg, he] at he'
      cases he'
  · unfold FT at f1
    have e5 : M1.1 500 0 = M.1 500 0 := (f1 500 0 (by omega)).1
    have hR1 : R12 (M1.1 500 0) := by rw [e5]; exact h.1.1
    have key := c612 (i := 0) (M := M1) (Q := fun M2 => E_934 M2 fun M3 => E_1022 (setJ M3 50 0 0 ((Int32.ofInt (M3.1 6 0 5)).toInt64)) (fun (b : Int) (M4 : Mm) => M4.1 10 0 0 = 0 ∧ ((0 : Int) = 0 → M4.2 50 0 0 = (Int32.ofInt b).toInt64) ∧ K M4)) cs 0 (by rw [h5]; omega) (by omega) hl M1 Fx.rf hR1 fun M2 f2 h2 hR2 => ?_
    · exact key
    rw [e5] at h2
    have e1 : M2.1 1 0 = M.1 1 0 := by rw [(f2 1 0 (by omega)).1, (f1 1 0 (by omega)).1]
    refine c934 (s := s) (u := u) (by rw [e1]; exact a1) a2 (by rw [e1]; exact a3) (by omega) fun M3 f3 rc z => ?_
    rw [(f2 200 0 (by omega)).1, (f1 200 0 (by omega)).1] at rc
    have e3 : M3.1 500 0 = M2.1 500 0 := (f3 500 0 (by omega)).1
    have hR3 : R12 (M3.1 500 0) := by rw [e3]; exact hR2
    have e6 : M3.1 6 0 = M1.1 6 0 := by rw [(f3 6 0 (by omega)).1, (f2 6 0 (by omega)).1]
    have c3 : Fx TCc M M3 := (f1.up fun t j g => by unfold TCc; omega).tr ((f2.up fun t j g => by unfold TCc; omega).tr (f3.up fun t j g => by unfold TCc; omega))
    rw [e6, h5]
    have c4 : Fx TCc M (setJ M3 50 0 0 ((Int32.ofInt ((cs.length : Nat) : Int)).toInt64)) := c3.tr (Fx.setJ (Or.inr rfl))
    generalize hX : setJ M3 50 0 0 ((Int32.ofInt ((cs.length : Nat) : Int)).toInt64) = X at c4 ⊢
    have x1 : X.1 = M3.1 := by rw [← hX]; rfl
    have x10 : X.1 10 0 = M.1 10 0 := (c4 10 0 (by unfold TCc; omega)).1
    have x11 : X.1 1110 0 = M.1 1110 0 := (c4 1110 0 (by unfold TCc; omega)).1
    have x01 : X.1 1101 0 = M.1 1101 0 := (c4 1101 0 (by unfold TCc; omega)).1
    refine c1022 (s := M.1 1110 0) (len := l) (f := M.1 1101 0) t2 x11 (by rw [x10]; exact t3) x01 hRm (fun e' he' => ?_) fun cs' he' M5 f5 g0 g11 g12 gq h1105 => ?_
    · rw [ecg, he] at he'
      cases he'
    have : cs' = cs := by
      rw [ecg, he] at he'
      cases he'
      rfl
    subst this
    have hT : TxI M5 := by
      refine ⟨0, ?_, by omega, ?_, fun i hi => absurd hi (Nat.not_lt_zero i), ?_⟩
      · rw [(f5 6 0 (by omega)).1, x1, e6, h3]; rfl
      · rw [g11]; rfl
      · rw [g12, (f5 6 0 (by omega)).1, x1, e6, h4]
    refine rend h a1 a3 (by omega) c4 (by unfold RcC; rw [x1]; exact rc) (by rw [x1]; exact z) (by rw [x1]; exact hR3) f5 (fun q hq => gq q (by unfold S34; omega) (by omega) (by omega) (by omega)) hT (fun y hy => ?_) fun M6 f6 k6 hR6 he6 i6 => ⟨by rw [k6]; exact g0, fun _ => ?_, hK _ i6⟩
    · rw [h1105 y hy, x1, e3, h2 y hy]
      exact runL_cg h.1.2 y hy
    · rw [(f6 50 0 (by unfold TMc; omega)).2, (f5 50 0 (by omega)).2, ← hX, setJ_at, upj_at]
theorem k5 (h : Inv M) (hK : ∀ M', Inv M' → K M') : W_1203 M (fun (r : Int) (M1 : Mm) => E_1012 M1 (fun (b : Int) (M2 : Mm) => M2.1 10 0 0 = r ∧ (r = 0 → M2.2 50 0 0 = (Int32.ofInt b).toInt64) ∧ K M2)) := by
  obtain ⟨s, u, r, ⟨a1, a2, a3, a4, a5, a6, a7⟩, b1, b2, b3, b4⟩ := h.2.2.1
  have c := CQ.rf h
  refine w_1203 (x_906 ⟨fun g => ?_, fun g => ⟨rfl, s_1012_0 fun M1 e1 => ⟨fun n => absurd (by rw [e1, setI_at, ups_ne (by omega), a5]; omega) n, fun _ M2 e2 => fin1 h hK c (((RQ.rf (c.mi h)).set e1 NK0).set e2 NK0) (thr_v e2) (by decide)⟩⟩⟩)
  refine c102 (u := u) (r := r) a1 a2 a3 (by omega) (by omega) a4 (by omega) fun M1 f1 d1 d2 d3 d4 => s_501_0 fun M2 e2 => ?_
  have f2 : Fx (fun t j => t = 5 ∧ j = 0) M1 M2 := by rw [e2]; exact Fx.setI ⟨rfl, rfl⟩
  have c2 : Fx TCc M M2 := (f1.up fun t j g => by unfold TCc; omega).tr (f2.up fun t j g => by unfold TCc; omega)
  have q1 : M2.1 1 0 = M1.1 1 0 := (f2 1 0 (by omega)).1
  have q5 : M2.1 500 0 = M1.1 500 0 := (f2 500 0 (by omega)).1
  have q2 : M2.1 200 0 = M.1 200 0 := by rw [(f2 200 0 (by omega)).1, (f1 200 0 (by omega)).1]
  have q6 : M2.1 6 0 = M.1 6 0 := by rw [(f2 6 0 (by omega)).1, (f1 6 0 (by omega)).1]
  have q7 : M2.1 700 0 = M.1 700 0 := by rw [(f2 700 0 (by omega)).1, (f1 700 0 (by omega)).1]
  have z : M2.1 5 0 10 = 0 := by rw [e2, setI_at, ups_at]
  have hR2 : R12 (M2.1 500 0) := fun y hy => by rw [q5, d4 y hy]; exact b1 _ (by omega)
  rw [q1, d2]
  have c3 : Fx TCc M (setJ M2 50 0 0 ((Int32.ofInt ((u - 1 : Nat) : Int)).toInt64)) := c2.tr (Fx.setJ (Or.inr rfl))
  generalize hX : setJ M2 50 0 0 ((Int32.ofInt ((u - 1 : Nat) : Int)).toInt64) = X at c3 ⊢
  have x1 : X.1 = M2.1 := by rw [← hX]; rfl
  have x10 : X.1 10 0 = M.1 10 0 := (c3 10 0 (by unfold TCc; omega)).1
  refine s_1012_0 fun M3 e3 => ⟨fun _ => ?_, fun n => absurd n (by rw [e3, setI_at, ups_ne (by omega), x10, a5]; omega)⟩
  have f3 : Fx (fun t j => t = 10 ∧ j = 0) X M3 := by rw [e3]; exact Fx.setI ⟨rfl, rfl⟩
  have k3 : ∀ q, q ≠ 0 → M3.1 10 0 q = M.1 10 0 q := fun q hq => by rw [e3, setI_at, ups_ne hq, x10]
  have o3 : ∀ t, 1101 ≤ t → M3.1 t 0 = M.1 t 0 := fun t ht => by rw [(f3 t 0 (by omega)).1]; exact (c3 t 0 (by unfold TCc; omega)).1
  rw [k3 7 (by omega), a6]
  refine c1007_1103 (by omega) fun M4 f4 g4 _ => ?_
  obtain ⟨g4a, g4b⟩ := g4 (by omega)
  have k4 : ∀ q, q ≠ 0 → M4.1 10 0 q = M.1 10 0 q := fun q hq => by rw [(f4 10 0 (by omega)).1]; exact k3 q hq
  have r4 := k4 7 (by omega)
  refine ⟨by omega, fun M5 e5 => ?_⟩
  have r5 : M5.1 10 0 6 = u := by rw [e5, setI_at, ups_ne (by omega), k4 6 (by omega), a5]
  refine ⟨by omega, fun M6 e6 => ?_⟩
  have r6 : M6.1 10 0 6 = ((u - 1 : Nat) : Int) := by rw [e6, setI_at, ups_at, r5]; omega
  refine ⟨by omega, ?_⟩
  have f6 : Fx (fun t j => t = 10 ∧ j = 0) M4 M6 := by
    rw [e6, e5]
    exact (Fx.setI ⟨rfl, rfl⟩).tr (Fx.setI ⟨rfl, rfl⟩)
  have k6 : ∀ q, q ≠ 0 → q ≠ 6 → q ≠ 7 → M6.1 10 0 q = M.1 10 0 q := fun q h0 h6 h7 => by rw [e6, setI_at, ups_ne h6, e5, setI_at, ups_ne h7, k4 q h0]
  have z6 : M6.1 10 0 0 = 0 := by rw [e6, setI_at, ups_ne (by omega), e5, setI_at, ups_ne (by omega), (f4 10 0 (by omega)).1]; exact thr_v e3
  have r7 : M6.1 10 0 7 = (r + 1 : Nat) := by rw [e6, setI_at, ups_ne (by omega), e5, setI_at, ups_at, r4, a6]; rfl
  rw [show 12 * M6.1 10 0 6 = ((12 * (u - 1) : Nat) : Int) by omega]
  refine c1006_1102_1101 (z := 0) (by omega) (by omega) fun M7 f7 g7 _ M8 e8 => ?_
  have f8 : Fx (fun t j => t = 10 ∧ j = 0) M7 M8 := by rw [e8]; exact Fx.setI ⟨rfl, rfl⟩
  have m8 : Fx TMc X M8 := (f3.up fun t j g => by unfold TMc; omega).tr ((f4.up fun t j g => by unfold TMc; omega).tr ((f6.up fun t j g => by unfold TMc; omega).tr ((f7.up fun t j g => by unfold TMc; omega).tr (f8.up fun t j g => by unfold TMc; omega))))
  have k8 : ∀ q, q ≠ 9 → M8.1 10 0 q = M6.1 10 0 q := fun q hq => by rw [e8, setI_at, ups_ne hq, (f7 10 0 (by omega)).1]
  have h1102 : M8.1 1102 0 = M.1 1102 0 := by rw [(f8 1102 0 (by omega)).1, (f7 1102 0 (by omega)).1, (f6 1102 0 (by omega)).1, (f4 1102 0 (by omega)).1]; exact o3 1102 (by omega)
  have h1103 : M8.1 1103 0 = M4.1 1103 0 := by rw [(f8 1103 0 (by omega)).1, (f7 1103 0 (by omega)).1, (f6 1103 0 (by omega)).1]
  have h1101 : ∀ y, y < 12 → M8.1 1101 0 y = M.1 1102 0 (12 * (u - 1) + y) := fun y hy => by
    have := g7 y hy
    rw [Nat.zero_add] at this
    rw [(f8 1101 0 (by omega)).1, this, (f6 1102 0 (by omega)).1, (f4 1102 0 (by omega)).1, o3 1102 (by omega)]
  have w1 : M8.1 1 0 = M1.1 1 0 := by rw [(m8 1 0 (by unfold TMc; omega)).1, x1, q1]
  have w2 : M8.1 200 0 = M.1 200 0 := by rw [(m8 200 0 (by unfold TMc; omega)).1, x1, q2]
  have w5 : M8.1 500 0 = M1.1 500 0 := by rw [(m8 500 0 (by unfold TMc; omega)).1, x1, q5]
  have fin : Inv M8 := by
    refine h.chg c3 (by rw [x1]; exact z) m8 ?_ (by rw [e8, setI_at, ups_at]) ?_ (by rw [x1]; exact hR2) (fun y hy => ?_) ?_
    · rw [k8 8 (by omega), k6 8 (by omega) (by omega) (by omega)]
    · refine h.2.2.2.1.fx ⟨?_, ?_, ?_⟩ ⟨?_, ?_⟩
      · rw [(m8 6 0 (by unfold TMc; omega)).1, x1, q6]
      · rw [(m8 700 0 (by unfold TMc; omega)).1, x1, q7]
      · rw [(f8 1110 0 (by omega)).1, (f7 1110 0 (by omega)).1, (f6 1110 0 (by omega)).1, (f4 1110 0 (by omega)).1]; exact o3 1110 (by omega)
      · rw [k8 11 (by omega), k6 11 (by omega) (by omega) (by omega)]
      · rw [k8 12 (by omega), k6 12 (by omega) (by omega) (by omega)]
    · rw [h1101 y hy, b3 (u - 1) y (by omega) hy, x1, q5, d4 y hy, show (s + 9 - (u - (u - 1))) % 9 = (s + 8) % 9 by omega]
    · refine ⟨(s + 8) % 9, u - 1, r + 1, ⟨by rw [w1]; exact d1, by omega, by rw [w1]; exact d2, by rw [w1]; exact d3, by rw [k8 6 (by omega)]; exact r6, by rw [k8 7 (by omega)]; exact r7, by omega⟩, fun q hq => by rw [w2]; exact b1 q hq, fun y hy => by rw [w2, w5, d4 y hy], fun j y hj hy => ?_, fun j y hj hy => ?_⟩
      · rw [h1102, w2, b3 j y (by omega) hy, show ((s + 8) % 9 + 9 - (u - 1 - j)) % 9 = (s + 9 - (u - j)) % 9 by omega]
      · rw [h1103, w2]
        by_cases gj : j = r
        · subst gj
          rw [g4a y hy, o3 1101 (by omega), h.1.2 y hy, ← b2 y hy, show ((s + 8) % 9 + (j + 1 - j)) % 9 = s by omega]
        · rw [g4b _ (by omega), o3 1103 (by omega), b4 j y (by omega) hy, show ((s + 8) % 9 + (r + 1 - j)) % 9 = (s + (r - j)) % 9 by omega]
  refine ⟨by rw [k8 0 (by omega)]; exact z6, fun _ => ?_, hK _ fin⟩
  rw [(m8 50 0 (by unfold TMc; omega)).2, ← hX, setJ_at, upj_at, k8 6 (by omega), r6]
theorem k6 (h : Inv M) (hK : ∀ M', Inv M' → K M') : W_1204 M (fun (r : Int) (M1 : Mm) => E_1013 M1 (fun (b : Int) (M2 : Mm) => M2.1 10 0 0 = r ∧ (r = 0 → M2.2 50 0 0 = (Int32.ofInt b).toInt64) ∧ K M2)) := by
  obtain ⟨s, u, r, ⟨a1, a2, a3, a4, a5, a6, a7⟩, b1, b2, b3, b4⟩ := h.2.2.1
  have c := CQ.rf h
  refine w_1204 (x_907 ⟨fun g => ?_, fun g => ⟨rfl, s_1013_0 fun M1 e1 => ⟨fun n => absurd (by rw [e1, setI_at, ups_ne (by omega), a6]; omega) n, fun _ M2 e2 => fin1 h hK c (((RQ.rf (c.mi h)).set e1 NK0).set e2 NK0) (thr_v e2) (by decide)⟩⟩⟩)
  refine c103 (u := u) (r := r) a1 a2 a3 (by omega) a4 (by omega) (by omega) fun M1 f1 d1 d2 d3 d4 => s_501_0 fun M2 e2 => ?_
  have f2 : Fx (fun t j => t = 5 ∧ j = 0) M1 M2 := by rw [e2]; exact Fx.setI ⟨rfl, rfl⟩
  have c2 : Fx TCc M M2 := (f1.up fun t j g => by unfold TCc; omega).tr (f2.up fun t j g => by unfold TCc; omega)
  have q1 : M2.1 1 0 = M1.1 1 0 := (f2 1 0 (by omega)).1
  have q5 : M2.1 500 0 = M1.1 500 0 := (f2 500 0 (by omega)).1
  have q2 : M2.1 200 0 = M.1 200 0 := by rw [(f2 200 0 (by omega)).1, (f1 200 0 (by omega)).1]
  have q6 : M2.1 6 0 = M.1 6 0 := by rw [(f2 6 0 (by omega)).1, (f1 6 0 (by omega)).1]
  have q7 : M2.1 700 0 = M.1 700 0 := by rw [(f2 700 0 (by omega)).1, (f1 700 0 (by omega)).1]
  have z : M2.1 5 0 10 = 0 := by rw [e2, setI_at, ups_at]
  have hR2 : R12 (M2.1 500 0) := fun y hy => by rw [q5, d4 y hy]; exact b1 _ (by omega)
  rw [q1, d3]
  have c3 : Fx TCc M (setJ M2 50 0 0 ((Int32.ofInt ((r - 1 : Nat) : Int)).toInt64)) := c2.tr (Fx.setJ (Or.inr rfl))
  generalize hX : setJ M2 50 0 0 ((Int32.ofInt ((r - 1 : Nat) : Int)).toInt64) = X at c3 ⊢
  have x1 : X.1 = M2.1 := by rw [← hX]; rfl
  have x10 : X.1 10 0 = M.1 10 0 := (c3 10 0 (by unfold TCc; omega)).1
  refine s_1013_0 fun M3 e3 => ⟨fun _ => ?_, fun n => absurd n (by rw [e3, setI_at, ups_ne (by omega), x10, a6]; omega)⟩
  have f3 : Fx (fun t j => t = 10 ∧ j = 0) X M3 := by rw [e3]; exact Fx.setI ⟨rfl, rfl⟩
  have k3 : ∀ q, q ≠ 0 → M3.1 10 0 q = M.1 10 0 q := fun q hq => by rw [e3, setI_at, ups_ne hq, x10]
  have o3 : ∀ t, 1101 ≤ t → M3.1 t 0 = M.1 t 0 := fun t ht => by rw [(f3 t 0 (by omega)).1]; exact (c3 t 0 (by unfold TCc; omega)).1
  rw [k3 6 (by omega), a5]
  refine c1007_1102 (by omega) fun M4 f4 g4 _ => ?_
  obtain ⟨g4a, g4b⟩ := g4 (by omega)
  have k4 : ∀ q, q ≠ 0 → M4.1 10 0 q = M.1 10 0 q := fun q hq => by rw [(f4 10 0 (by omega)).1]; exact k3 q hq
  have r4 := k4 6 (by omega)
  refine ⟨by omega, fun M5 e5 => ?_⟩
  have r5 : M5.1 10 0 7 = r := by rw [e5, setI_at, ups_ne (by omega), k4 7 (by omega), a6]
  refine ⟨by omega, fun M6 e6 => ?_⟩
  have r6 : M6.1 10 0 7 = ((r - 1 : Nat) : Int) := by rw [e6, setI_at, ups_at, r5]; omega
  refine ⟨by omega, ?_⟩
  have f6 : Fx (fun t j => t = 10 ∧ j = 0) M4 M6 := by
    rw [e6, e5]
    exact (Fx.setI ⟨rfl, rfl⟩).tr (Fx.setI ⟨rfl, rfl⟩)
  have k6 : ∀ q, q ≠ 0 → q ≠ 6 → q ≠ 7 → M6.1 10 0 q = M.1 10 0 q := fun q h0 h6 h7 => by rw [e6, setI_at, ups_ne h7, e5, setI_at, ups_ne h6, k4 q h0]
  have z6 : M6.1 10 0 0 = 0 := by rw [e6, setI_at, ups_ne (by omega), e5, setI_at, ups_ne (by omega), (f4 10 0 (by omega)).1]; exact thr_v e3
  have r7 : M6.1 10 0 6 = (u + 1 : Nat) := by rw [e6, setI_at, ups_ne (by omega), e5, setI_at, ups_at, r4, a5]; rfl
  rw [show 12 * M6.1 10 0 7 = ((12 * (r - 1) : Nat) : Int) by omega]
  refine c1006_1103_1101 (z := 0) (by omega) (by omega) fun M7 f7 g7 _ M8 e8 => ?_
  have f8 : Fx (fun t j => t = 10 ∧ j = 0) M7 M8 := by rw [e8]; exact Fx.setI ⟨rfl, rfl⟩
  have m8 : Fx TMc X M8 := (f3.up fun t j g => by unfold TMc; omega).tr ((f4.up fun t j g => by unfold TMc; omega).tr ((f6.up fun t j g => by unfold TMc; omega).tr ((f7.up fun t j g => by unfold TMc; omega).tr (f8.up fun t j g => by unfold TMc; omega))))
  have k8 : ∀ q, q ≠ 9 → M8.1 10 0 q = M6.1 10 0 q := fun q hq => by rw [e8, setI_at, ups_ne hq, (f7 10 0 (by omega)).1]
  have h1103 : M8.1 1103 0 = M.1 1103 0 := by rw [(f8 1103 0 (by omega)).1, (f7 1103 0 (by omega)).1, (f6 1103 0 (by omega)).1, (f4 1103 0 (by omega)).1]; exact o3 1103 (by omega)
  have h1102 : M8.1 1102 0 = M4.1 1102 0 := by rw [(f8 1102 0 (by omega)).1, (f7 1102 0 (by omega)).1, (f6 1102 0 (by omega)).1]
  have h1101 : ∀ y, y < 12 → M8.1 1101 0 y = M.1 1103 0 (12 * (r - 1) + y) := fun y hy => by
    have := g7 y hy
    rw [Nat.zero_add] at this
    rw [(f8 1101 0 (by omega)).1, this, (f6 1103 0 (by omega)).1, (f4 1103 0 (by omega)).1, o3 1103 (by omega)]
  have w1 : M8.1 1 0 = M1.1 1 0 := by rw [(m8 1 0 (by unfold TMc; omega)).1, x1, q1]
  have w2 : M8.1 200 0 = M.1 200 0 := by rw [(m8 200 0 (by unfold TMc; omega)).1, x1, q2]
  have w5 : M8.1 500 0 = M1.1 500 0 := by rw [(m8 500 0 (by unfold TMc; omega)).1, x1, q5]
  have fin : Inv M8 := by
    refine h.chg c3 (by rw [x1]; exact z) m8 ?_ (by rw [e8, setI_at, ups_at]) ?_ (by rw [x1]; exact hR2) (fun y hy => ?_) ?_
    · rw [k8 8 (by omega), k6 8 (by omega) (by omega) (by omega)]
    · refine h.2.2.2.1.fx ⟨?_, ?_, ?_⟩ ⟨?_, ?_⟩
      · rw [(m8 6 0 (by unfold TMc; omega)).1, x1, q6]
      · rw [(m8 700 0 (by unfold TMc; omega)).1, x1, q7]
      · rw [(f8 1110 0 (by omega)).1, (f7 1110 0 (by omega)).1, (f6 1110 0 (by omega)).1, (f4 1110 0 (by omega)).1]; exact o3 1110 (by omega)
      · rw [k8 11 (by omega), k6 11 (by omega) (by omega) (by omega)]
      · rw [k8 12 (by omega), k6 12 (by omega) (by omega) (by omega)]
    · rw [h1101 y hy, b4 (r - 1) y (by omega) hy, x1, q5, d4 y hy, show (s + (r - (r - 1))) % 9 = (s + 1) % 9 by omega]
    · refine ⟨(s + 1) % 9, u + 1, r - 1, ⟨by rw [w1]; exact d1, by omega, by rw [w1]; exact d2, by rw [w1]; exact d3, by rw [k8 6 (by omega)]; exact r7, by rw [k8 7 (by omega)]; exact r6, by omega⟩, fun q hq => by rw [w2]; exact b1 q hq, fun y hy => by rw [w2, w5, d4 y hy], fun j y hj hy => ?_, fun j y hj hy => ?_⟩
      · rw [h1102, w2]
        by_cases gj : j = u
        · subst gj
          rw [g4a y hy, o3 1101 (by omega), h.1.2 y hy, ← b2 y hy, show ((s + 1) % 9 + 9 - (j + 1 - j)) % 9 = s by omega]
        · rw [g4b _ (by omega), o3 1102 (by omega), b3 j y (by omega) hy, show ((s + 1) % 9 + 9 - (u + 1 - j)) % 9 = (s + 9 - (u - j)) % 9 by omega]
      · rw [h1103, w2, b4 j y (by omega) hy, show ((s + 1) % 9 + (r - 1 - j)) % 9 = (s + (r - j)) % 9 by omega]
  refine ⟨by rw [k8 0 (by omega)]; exact z6, fun _ => ?_, hK _ fin⟩
  rw [(m8 50 0 (by unfold TMc; omega)).2, ← hX, setJ_at, upj_at, k8 7 (by omega), r6]
theorem k7 (h : Inv M) (hK : ∀ M', Inv M' → K M') : E_908 M (fun (r : Int) (M1 : Mm) => E_1014 M1 (fun (b : Int) (M2 : Mm) => r = b ∧ K M2)) := by
  obtain ⟨i1, i2, i3, i4, i5, i6, i7⟩ := h
  refine s_908_0 (c404 (by omega) fun M1 f1 h1 M2 e2 => ?_)
  have f2 : Fx (fun t j => t = 9 ∧ j = 0) M1 M2 := by rw [e2]; exact Fx.setI ⟨rfl, rfl⟩
  have c2 : Fx (fun t j => t = 500 ∧ j = 1 ∨ t = 9 ∧ j = 0) M M2 := (f1.up fun t j g => Or.inl g).tr (f2.up fun t j g => Or.inr g)
  have e5 : M2.1 500 0 = M.1 500 0 := (c2 500 0 (by omega)).1
  have hRm : R12 (M.1 1101 0) := i1.1.cg i1.2
  refine c402 (by rw [e5]; exact i1.1) (s_1014_0 fun M3 e3 => c1006_1101_1104 (x := 0) (z := 0) (by omega) (by omega) fun M4 f4 h4 _ M5 e5' => ?_)
  have f3 : Fx (fun t j => t = 10 ∧ j = 0) M2 M3 := by rw [e3]; exact Fx.setI ⟨rfl, rfl⟩
  have f5 : Fx (fun t j => t = 10 ∧ j = 0) M4 M5 := by rw [e5']; exact Fx.setI ⟨rfl, rfl⟩
  have m5 : Fx (fun t j => (t = 10 ∨ t = 1104) ∧ j = 0) M2 M5 := (f3.up fun t j g => by omega).tr ((f4.up fun t j g => by omega).tr (f5.up fun t j g => by omega))
  have m : Fx (fun t j => t = 500 ∧ j = 1 ∨ (t = 9 ∨ t = 10 ∨ t = 1104) ∧ j = 0) M M5 := (c2.up fun t j g => by omega).tr (m5.up fun t j g => by omega)
  have e : ∀ t j, ¬ (t = 500 ∧ j = 1 ∨ (t = 9 ∨ t = 10 ∨ t = 1104) ∧ j = 0) → M5.1 t j = M.1 t j := fun t j ht => (m t j ht).1
  have k : ∀ q, q ≠ 0 → q ≠ 8 → M5.1 10 0 q = M.1 10 0 q := fun q h0 h8 => by rw [e5', setI_at, ups_ne h8, (f4 10 0 (by omega)).1, e3, setI_at, ups_ne h0, (c2 10 0 (by omega)).1]
  have x01 : M5.1 1101 0 = M.1 1101 0 := e 1101 0 (by omega)
  refine c1005 (by rw [x01]; exact hRm) ⟨by rw [e5, x01, size_cg i1.2], hK _ ⟨i1.fx ⟨e 500 0 (by omega), x01⟩, ⟨?_, Or.inr ?_, ?_, fun _ y hy => ?_⟩, i3.fx ⟨e 1 0 (by omega), e 200 0 (by omega), e 500 0 (by omega), e 1102 0 (by omega), e 1103 0 (by omega)⟩ ⟨k 6 (by omega) (by omega), k 7 (by omega) (by omega)⟩, i4.fx ⟨e 6 0 (by omega), e 700 0 (by omega), e 1110 0 (by omega)⟩ ⟨k 11 (by omega) (by omega), k 12 (by omega) (by omega)⟩, i5.fx ⟨e 402 12 (by omega), e 3 12 (by omega), e 2 12 (by omega), (m 401 12 (by omega)).2⟩, fun g => ?_, fun g => ?_⟩⟩
  · rw [(m5 500 1 (by omega)).1, (f2 500 1 (by omega)).1]
    exact i1.1.cg h1
  · rw [(m5 9 0 (by omega)).1, e2, setI_at, ups_at]
  · rw [show M5.1 10 0 8 = 1 by rw [e5', setI_at, ups_at], (m5 9 0 (by omega)).1, e2, setI_at, ups_at]
  · have := h4 y hy
    rw [Nat.zero_add] at this
    rw [(f5 1104 0 (by omega)).1, this, (f3 1101 0 (by omega)).1, (c2 1101 0 (by omega)).1, (m5 500 1 (by omega)).1, (f2 500 1 (by omega)).1, h1 y hy]
    exact i1.2 y hy
  · rw [e 5 0 (by omega)] at g
    rw [e 500 0 (by omega)]
    exact (i6 g).fx (by rw [e 5 0 (by omega)]) fun t j h5 ht => m t j (by unfold TRF at ht; omega)
  · rw [k 9 (by omega) (by omega)] at g
    rw [e 500 0 (by omega)]
    exact (i7 g).fx ⟨k 18 (by omega) (by omega), k 34 (by omega) (by omega), k 44 (by omega) (by omega)⟩ fun t ht => m t 0 (by omega)
end Kinds6

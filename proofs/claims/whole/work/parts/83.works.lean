/-! the reference works everything out -/
theorem v_emp {P : Int → Int → Bool} (hg : InG P) (h0 : ∀ x y, P x y = false) : Vok P ∧ vE P = 0 ∧ vN P = 0 := by
  have hb : ∀ x y, bn P x y = false := fun x y => by
    unfold bn
    rw [h0, h0, h0, h0]
    rfl
  have hc : Cf P 0 (fun _ => 0) (fun _ => 0) (fun _ => 0) := ⟨⟨rfl, fun c hc => absurd hc (Nat.not_lt_zero c), fun i j hi => absurd hi (Nat.not_lt_zero i)⟩, fun x y hx => by rw [hb] at hx; cases hx⟩
  have hl : LN P ((fun _ => 0 : Nat → Nat) 0) (fun _ => 0) (fun _ => 0) (fun _ => 0) := fun i hi => absurd hi (Nat.not_lt_zero i)
  obtain ⟨u1, -, -, u4⟩ := v_un hg hc hl
  exact ⟨vT_ok hc hl, u4.symm, u1.symm⟩
theorem Mds.up {M M' : Mm} {p : Nat} {P : Int → Int → Bool} (h : Mds M p P) (g : Sok P) (e1 : M'.1 1124 0 p = M.1 1124 0 p) (e2 : ∀ r, r < 161 * (p + 1) → M'.1 1125 0 r = M.1 1125 0 r) (e3 : ∀ r, r < 160 * (p + 1) → M'.1 1126 0 r = M.1 1126 0 r) (e4 : ∀ r, r < 640 * (p + 1) → M'.1 1127 0 r = M.1 1127 0 r ∧ M'.1 1128 0 r = M.1 1128 0 r) : Mds M' p P := by
  obtain ⟨h1, ⟨h2, h3, h4⟩, h5⟩ := h
  have n78 := g.2.2.1
  have n312 : vS P (vN P) ≤ 312 := g.2.2.2.1
  refine ⟨h1, ⟨by rw [e1]; exact h2, fun c hc => ?_, fun i hi => ?_⟩, fun c hc => ?_⟩
  · rw [e2 _ (by omega)]; exact h3 c hc
  · rw [(e4 _ (by omega)).1, (e4 _ (by omega)).2]; exact h4 i hi
  · rw [e3 _ (by omega)]; exact h5 c hc
/-- the phases below k, as they stand when k of them are labelled -/
def LoM (M : Mm) (f : Nat → Int) (k : Nat) : Prop := ∀ j, j < k → Mds M j (lay f (2 * j + 1)) ∧ (∀ x, x < 2304 → M.1 1119 0 (2304 * j + x) = lb (PK f j) x) ∧ M.1 1120 0 j = nc f j ∧ (∀ c, c < nc f j → 0 < j → M.1 1121 0 (80 * j + c) = prK f j c) ∧ (j + 1 < k → ∀ b, b < nc f j → M.1 1122 0 (80 * j + b) = kdn (nc f) (prK f) j b) ∧ (j + 1 = k → ∀ b, b < nc f j → M.1 1122 0 (80 * j + b) = 0)
def TRM (t j : Nat) : Prop := (t = 10 ∨ (1116 ≤ t ∧ t ≤ 1151)) ∧ j = 0
def SW (q : Nat) : Prop := q = 9 ∨ q = 18 ∨ (30 ≤ q ∧ q ≤ 34) ∨ q = 44
/-- everything that the reference keeps of a region's roof -/
def FrM (M : Mm) (f : Nat → Int) (N : Nat) : Prop := IsN f N ∧ MTr M N (nc f) (prK f) ∧ (∀ h, h < 26 → M.1 1151 0 h = (hcnt f h : Int)) ∧ (∀ k, k < N → PhR M f k ∧ Mds M k (lay f (2 * k + 1)) ∧ ∀ x, x < 2304 → M.1 1119 0 (2304 * k + x) = lb (PK f k) x) ∧ Vok (lay f 1) ∧ Edm M (lay f 1) ∧ (∀ c i, c < vN (lay f 1) → vS (lay f 1) c ≤ i → i < vS (lay f 1) (c + 1) → M.1 1139 0 i = c) ∧ (∀ c, c < 144 → M.1 1140 0 c = fcC f c) ∧ M.1 10 0 44 = (roots (nc f) (prK f)).length ∧ MecL M (nc f) (prK f) 0 (roots (nc f) (prK f)) ∧ Wys (roots (nc f) (prK f)).length (paL (roots (nc f) (prK f))) (M.1 1150 0)
theorem FrM.fx {M M' : Mm} {f : Nat → Int} {N : Nat} (h : FrM M f N) (e10 : M'.1 10 0 18 = M.1 10 0 18 ∧ M'.1 10 0 34 = M.1 10 0 34 ∧ M'.1 10 0 44 = M.1 10 0 44) (e : ∀ t, t = 1116 ∨ (1119 ≤ t ∧ t ≤ 1122) ∨ (1124 ≤ t ∧ t ≤ 1128) ∨ (1135 ≤ t ∧ t ≤ 1151) → M'.1 t 0 = M.1 t 0 ∧ M'.2 t 0 = M.2 t 0) : FrM M' f N := by
  obtain ⟨h1, h2, h3, h4, h5, h6, h7, h8, h9, h10, h11⟩ := h
  refine ⟨h1, h2.fx e10.1 fun t ht => (e t (by omega)).1, fun q hq => by rw [(e 1151 (by omega)).1]; exact h3 q hq, fun k hk => ⟨?_, ?_, fun x hx => by rw [(e 1119 (by omega)).1]; exact (h4 k hk).2.2 x hx⟩, h5, ?_, fun c i hc h1 h2 => by rw [(e 1139 (by omega)).1]; exact h7 c i hc h1 h2, fun c hc => by rw [(e 1140 (by omega)).1]; exact h8 c hc, by rw [e10.2.2]; exact h9, h10.fx (Nat.le_refl _) fun q _ t t1 t2 => by rw [(e t (by omega)).1], by rw [(e 1150 (by omega)).1]; exact h11⟩
  · unfold PhR
    rw [(e 1116 (by omega)).2]
    exact (h4 k hk).1
  · exact (h4 k hk).2.1.fx ⟨(e 1124 (by omega)).1, (e 1125 (by omega)).1, (e 1126 (by omega)).1, (e 1127 (by omega)).1, (e 1128 (by omega)).1⟩
  · obtain ⟨g1, g2⟩ := h6
    refine ⟨by rw [e10.2.1]; exact g1, fun i hi => ?_⟩
    rw [(e 1135 (by omega)).1, (e 1136 (by omega)).1, (e 1137 (by omega)).1, (e 1138 (by omega)).1]
    exact g2 i hi
theorem fcX_C (f : Nat → Int) {c : Nat} (hc : c < 144) : fcX f ((c % 12 : Nat) : Int) ((c / 12 : Nat) : Int) = fcC f c := by
  have h := sd_cel (f := f) (x := c % 12) (y := c / 12) (by omega) (by omega)
  have e : 12 * (c / 12) + c % 12 = c := by omega
  have e2 : (12 * ((c / 12 : Nat) : Int) + ((c % 12 : Nat) : Int)).toNat = c := by omega
  rw [e] at h
  unfold fcX
  rw [e2]
  by_cases q : cel f ((c % 12 : Nat) : Int) ((c / 12 : Nat) : Int) = true
  · rw [if_pos q]
  · rw [if_neg q]
    unfold fcC
    rw [if_neg (fun g => q (h.mp (by omega)))]
/-- labels, contours, edges, faces and branches -/
theorem w_rest {f : Nat → Int} {N : Nat} {M : Mm} {Q : Mm → Prop} (hf : M.1 1101 0 = f) (hR : R12 f) (hN : IsN f N) (h18 : M.1 10 0 18 = N) (hh : ∀ h, h < 26 → M.1 1151 0 h = (hcnt f h : Int)) (hph : ∀ k, k < N → PhR M f k)
    (hQ : ∀ M', Fx TRM M M' → (∀ q, ¬ SW q ∨ q = 9 → M'.1 10 0 q = M.1 10 0 q) → FrM M' f N → Q M') : L_1050_159 0 M Q := by
  have hN12 := hN.le
  have loop : ∀ (s k : Nat) (M' : Mm), k + s = N → Fx (fun t j => TL t j ∨ TC t j) M M' → LoM M' f k → L_1050_159 (k : Int) M' Q := by
    intro s
    induction s with
    | zero =>
      intro k M' hk hf' hL
      have ek : k = N := by omega
      subst ek
      have x10 : M'.1 10 0 = M.1 10 0 := (hf' 10 0 (by unfold TL TC; omega)).1
      refine s_1050_159 ?_
      rw [x10, h18]
      refine ⟨fun _ => ⟨by omega, fun M1 e1 => ?_⟩, fun h => by omega⟩
      rw [Int.toNat_natCast] at e1
      have y1 : ∀ t, t ≠ 1120 → M1.1 t 0 = M'.1 t 0 ∧ M1.2 t 0 = M'.2 t 0 := fun t ht => by rw [e1]; exact ⟨setI_ne (by omega), rfl⟩
      have f1 : Fx (fun t j => (TL t j ∨ TC t j) ∨ t = 1120 ∧ j = 0) M M1 := (hf'.up fun t j h => Or.inl h).tr (by rw [e1]; exact Fx.setI (Or.inr ⟨rfl, rfl⟩))
      -- the edges
      have hedge : ∀ Q' : Mm → Prop, (∀ M2, Fx T1042 M1 M2 → (∀ q, (q < 30 ∨ 34 < q) → M2.1 10 0 q = M1.1 10 0 q) → Vok (lay f 1) → Edm M2 (lay f 1) → (∀ c i, c < vN (lay f 1) → vS (lay f 1) c ≤ i → i < vS (lay f 1) (c + 1) → M2.1 1139 0 i = c) → Q' M2) → E_1042 M1 Q' := by
        intro Q' hQ'
        by_cases h0 : 0 < k
        · have hm := (hL 0 h0).1
          have hm1 : Mds M1 0 (lay f 1) := Mds.fx hm ⟨(y1 1124 (by omega)).1, (y1 1125 (by omega)).1, (y1 1126 (by omega)).1, (y1 1127 (by omega)).1, (y1 1128 (by omega)).1⟩
          have hv : Vok (lay f 1) := hm1.1
          refine c1042 (N := k) (by rw [(y1 10 (by omega)).1, x10]; exact h18) h0 hv.1.1 hv.2 hm1.2.1 fun M2 f2 a1 a2 a3 a4 => hQ' M2 f2 a2 hv ⟨a1, a3⟩ a4
        · have e0 : k = 0 := by omega
          have hz : ∀ x y, lay f 1 x y = false := by
            have := hN.2
            rw [e0] at this
            exact lcnt_0.mp this
          obtain ⟨v1, v2, v3⟩ := v_emp (lay_g f 1) hz
          refine c1042n (by rw [(y1 10 (by omega)).1, x10, h18, e0]; rfl) fun M2 f2 a1 a2 => hQ' M2 (f2.up fun t j h => by unfold T1042; omega) (fun q hq => a2 q (by omega)) v1 ⟨by rw [a1, v2]; rfl, fun i hi => by omega⟩ fun c i hc => by omega
      refine hedge _ fun M2 f2 a2 hv hE hcv => ?_
      have y2 : ∀ t, ¬ (t = 10 ∨ t = 1120 ∨ (1135 ≤ t ∧ t ≤ 1139)) → M2.1 t 0 = M'.1 t 0 ∧ M2.2 t 0 = M'.2 t 0 := fun t ht => by
        have a := f2 t 0 (by unfold T1042; omega)
        have b := y1 t (by omega)
        exact ⟨a.1.trans b.1, a.2.trans b.2⟩
      have f12 : Fx TRM M M2 := (f1.up fun t j h => by unfold TL TC at h; unfold TRM; omega).tr (f2.up fun t j h => by unfold T1042 at h; unfold TRM; omega)
      have hR2 : M2.1 1101 0 = f := by rw [(f12 1101 0 (by unfold TRM; omega)).1]; exact hf
      -- the faces
      have faces : ∀ (s c : Nat) (M3 : Mm), c + s = 144 → Fx (fun t j => t = 1140 ∧ j = 0) M2 M3 → (∀ c', c' < c → M3.1 1140 0 c' = fcC f c') → L_1050_199 (c : Int) M3 Q := by
        intro s
        induction s with
        | zero =>
          intro c M3 hc f3 g3
          refine s_1050_199 ⟨fun _ M4 e4 => ?_, fun h => by omega⟩
          have y4 : ∀ t, t ≠ 10 → M4.1 t 0 = M3.1 t 0 ∧ M4.2 t 0 = M3.2 t 0 := fun t ht => by rw [e4]; exact ⟨setI_ne (by omega), rfl⟩
          have x4 : M4.1 10 0 = ups (M2.1 10 0) 44 0 := by rw [e4, setI_at, (f3 10 0 (by omega)).1]
          have y34 : ∀ t, t ≠ 10 → t ≠ 1140 → M4.1 t 0 = M2.1 t 0 ∧ M4.2 t 0 = M2.2 t 0 := fun t h1 h2 => by
            have a := y4 t h1
            have b := f3 t 0 (by omega)
            exact ⟨a.1.trans b.1, a.2.trans b.2⟩
          have f4 : Fx TRM M M4 := (f12.tr (f3.up fun t j h => by unfold TRM; omega)).tr (by rw [e4]; exact Fx.setI (by unfold TRM; omega))
          have x2 : ∀ q, q < 30 ∨ 34 < q → M2.1 10 0 q = M.1 10 0 q := fun q hq => by rw [a2 q hq, (y1 10 (by omega)).1, x10]
          have hmt : MTr M4 k (nc f) (prK f) := by
            refine ⟨⟨?_, hN12, fun j hj => hN.nc0 hj⟩, fun j hj => ⟨?_, nc_le f j⟩, fun j hj => ⟨fun c hc hj0 => ?_, fun b hb => ?_⟩⟩
            · rw [x4, ups_ne (by omega), x2 18 (by omega)]; exact h18
            · rw [(y34 1120 (by omega) (by omega)).1, (f2 1120 0 (by unfold T1042; omega)).1, e1, setI_at]
              by_cases q : j = k
              · rw [q, ups_at, hN.nc0 (Nat.le_refl k)]; rfl
              · rw [ups_ne q]; exact (hL j (by omega)).2.2.1
            · rw [(y34 1121 (by omega) (by omega)).1, (y2 1121 (by omega)).1]; exact (hL j hj).2.2.2.1 c hc hj0
            · rw [(y34 1122 (by omega) (by omega)).1, (y2 1122 (by omega)).1]
              by_cases q : j + 1 = k
              · rw [(hL j hj).2.2.2.2.2 q b hb]
                unfold kdn
                rw [hN.nc0 (k := j + 1) (by omega)]
                rfl
              · exact (hL j hj).2.2.2.2.1 (by omega) b hb
          have hlen := roots_le hN
          refine c1050_237 hmt (fun c _ => prK_0 f c) (by rw [x4, ups_at]) (by omega) fun M5 f5 b1 b2 b3 b4 => ?_
          have y5 : ∀ t, t ≠ 10 → ¬ (1145 ≤ t ∧ t ≤ 1150) → M5.1 t 0 = M4.1 t 0 ∧ M5.2 t 0 = M4.2 t 0 := fun t h1 h2 => f5 t 0 (by unfold TMr; omega)
          have y : ∀ t, ¬ (t = 10 ∨ t = 1120 ∨ (1135 ≤ t ∧ t ≤ 1140) ∨ (1145 ≤ t ∧ t ≤ 1150)) → M5.1 t 0 = M'.1 t 0 ∧ M5.2 t 0 = M'.2 t 0 := fun t ht => by
            have a := y5 t (by omega) (by omega)
            have b := y34 t (by omega) (by omega)
            have c := y2 t (by omega)
            exact ⟨a.1.trans (b.1.trans c.1), a.2.trans (b.2.trans c.2)⟩
          have x5 : ∀ q, (q < 30 ∨ 34 < q) → q ≠ 44 → M5.1 10 0 q = M.1 10 0 q := fun q h1 h2 => by rw [b1 q h2, x4, ups_ne h2, x2 q h1]
          refine hQ M5 (f4.tr (f5.up fun t j h => by unfold TMr at h; unfold TRM; omega)) (fun q hq => x5 q (by unfold SW at hq; omega) (by unfold SW at hq; omega)) ⟨hN, hmt.fx (b1 18 (by omega)) (fun t ht => (y5 t (by omega) (by omega)).1), fun h h1 => ?_, fun j hj => ⟨?_, ?_, fun x hx => ?_⟩, hv, ?_, fun c i hc h1 h2 => ?_, fun c hc => ?_, b2, b3, b4⟩
          · rw [(y 1151 (by omega)).1, (hf' 1151 0 (by unfold TL TC; omega)).1]; exact hh h h1
          · unfold PhR
            rw [(y 1116 (by omega)).2, (hf' 1116 0 (by unfold TL TC; omega)).2]; exact hph j hj
          · exact (hL j hj).1.fx ⟨(y 1124 (by omega)).1, (y 1125 (by omega)).1, (y 1126 (by omega)).1, (y 1127 (by omega)).1, (y 1128 (by omega)).1⟩
          · rw [(y 1119 (by omega)).1]; exact (hL j hj).2.1 x hx
          · obtain ⟨g1, g2⟩ := hE
            have z : ∀ t, 1135 ≤ t → t ≤ 1139 → M5.1 t 0 = M2.1 t 0 := fun t h1 h2 => by rw [(y5 t (by omega) (by omega)).1, (y34 t (by omega) (by omega)).1]
            refine ⟨?_, fun i hi => ?_⟩
            · rw [b1 34 (by omega), x4, ups_ne (by omega)]; exact g1
            · rw [z 1135 (by omega) (by omega), z 1136 (by omega) (by omega), z 1137 (by omega) (by omega), z 1138 (by omega) (by omega)]; exact g2 i hi
          · rw [(y5 1139 (by omega) (by omega)).1, (y34 1139 (by omega) (by omega)).1]; exact hcv c i hc h1 h2
          · rw [(y5 1140 (by omega) (by omega)).1, (y4 1140 (by omega)).1]; exact g3 c (by omega)
        | succ s ih =>
          intro c M3 hc f3 g3
          refine s_1050_199 ⟨fun h => by omega, fun _ => ⟨by omega, fun d ed => ⟨by omega, fun d1 ed1 => ?_⟩⟩⟩
          have e1 : d = ((c % 12 : Nat) : Int) := by rw [ed, tmod_p (by omega)]; omega
          have e2 : d1 = ((c / 12 : Nat) : Int) := by rw [ed1, tdiv_p (by omega)]; omega
          subst e1
          subst e2
          have z : ∀ t, t ≠ 1140 → M3.1 t 0 = M2.1 t 0 := fun t ht => (f3 t 0 (by omega)).1
          refine c1044 (by rw [z 1101 (by omega)]; exact hR2) hR hv ?_ ⟨by omega, fun M4 e4 => ⟨by omega, ?_⟩⟩
          · obtain ⟨g1, g2⟩ := hE
            refine ⟨by rw [z 10 (by omega)]; exact g1, fun i hi => ?_⟩
            rw [z 1135 (by omega), z 1136 (by omega), z 1137 (by omega), z 1138 (by omega)]; exact g2 i hi
          · rw [Int.toNat_natCast, fcX_C f (by omega)] at e4
            have := ih (c + 1) M4 (by omega) (f3.tr (by rw [e4]; exact Fx.setI ⟨rfl, rfl⟩)) fun c' hc' => by
              rw [e4, setI_at]
              by_cases q : c' = c
              · rw [q, ups_at]
              · rw [ups_ne q]; exact g3 c' (by omega)
            rw [show (c : Int) + 1 = ((c + 1 : Nat) : Int) by omega]
            exact this
      exact faces 144 0 M2 (by omega) Fx.rf fun c' h => absurd h (Nat.not_lt_zero c')
    | succ s ih =>
      intro k M' hk hf' hL
      have x10 : M'.1 10 0 = M.1 10 0 := (hf' 10 0 (by unfold TL TC; omega)).1
      refine s_1050_159 ?_
      rw [x10, h18]
      refine ⟨fun h => by omega, fun _ => ?_⟩
      have hPh : PhR M' f k := by
        unfold PhR
        rw [(hf' 1116 0 (by unfold TL TC; omega)).2]; exact hph k (by omega)
      refine c1031 (by omega) hPh (fun j hj => ⟨(hL j (by omega)).2.1, (hL j (by omega)).2.2.2.2.2 hj.symm⟩) fun M1 f1 p1 p2 p3 p4 p5 p6 p7 p8 => ?_
      have hPh1 : PhR M1 f k := by
        unfold PhR
        rw [(f1 1116 0 (by unfold TL; omega)).2]; exact hPh
      refine c1034v (by omega) hPh1 fun M2 f2 q1 q2 q3 q4 q5 => ⟨by omega, ?_⟩
      have y1 : ∀ t, 1124 ≤ t → t ≤ 1129 → M1.1 t 0 = M'.1 t 0 := fun t h1 h2 => (f1 t 0 (by unfold TL; omega)).1
      have y2 : ∀ t, 1119 ≤ t → t ≤ 1123 → M2.1 t 0 = M1.1 t 0 := fun t h1 h2 => (f2 t 0 (by unfold TC; omega)).1
      have := ih (k + 1) M2 (by omega) ((hf'.tr (f1.up fun t j h => Or.inl h)).tr (f2.up fun t j h => Or.inr h)) fun j hj => ?_
      · rw [show (k : Int) + 1 = ((k + 1 : Nat) : Int) by omega]
        exact this
      · rw [y2 1119 (by omega) (by omega), y2 1120 (by omega) (by omega), y2 1121 (by omega) (by omega), y2 1122 (by omega) (by omega)]
        have hnc := nc_le f j
        have hnc' : nc f j ≤ 72 := hnc
        by_cases q : j = k
        · subst q
          refine ⟨q1, p1, p2, fun c hc hj0 => ?_, fun h => by omega, fun _ b hb => p3 b hb⟩
          obtain ⟨a1, a2, a3⟩ := fcK_s hc
          have := (p4 (j - 1) (by omega)).1 (fcK f j c) a1 a2
          rw [a3] at this
          rw [this]
          obtain ⟨j', rfl⟩ : ∃ j', j = j' + 1 := ⟨j - 1, by omega⟩
          exact (prK_s f j' c).symm
        · obtain ⟨a1, a2, a3, a4, a5, a6⟩ := hL j (by omega)
          refine ⟨a1.up (Sok.of a1.1) ?_ (fun r hr => ?_) (fun r hr => ?_) (fun r hr => ?_), fun x hx => ?_, ?_, fun c hc hj0 => ?_, fun hlt b hb => ?_, fun h => by omega⟩
          · rw [q2 j q, y1 1124 (by omega) (by omega)]
          · rw [q3 r (by omega), y1 1125 (by omega) (by omega)]
          · rw [q4 r (by omega), y1 1126 (by omega) (by omega)]
          · rw [(q5 r (by omega)).1, (q5 r (by omega)).2, y1 1127 (by omega) (by omega), y1 1128 (by omega) (by omega)]; exact ⟨rfl, rfl⟩
          · rw [p5 _ (by omega)]; exact a2 x hx
          · rw [p6 j q]; exact a3
          · rw [p7 _ (by omega)]; exact a4 c hc hj0
          · by_cases q2 : j + 1 = k
            · rw [(p4 j q2.symm).2 b hb, kdn_chn]
            · rw [p8 _ (by omega)]; exact a5 (by omega) b hb
  exact loop N 0 M (by omega) Fx.rf fun j hj => absurd hj (Nat.not_lt_zero j)
theorem c1050 {f : Nat → Int} {M : Mm} {Q : Mm → Prop} (hf : M.1 1101 0 = f) (hR : R12 f) (hfr : M.1 10 0 9 ≠ 0 → ∃ N, FrM M f N) (hQ : ∀ M' N, Fx TRM M M' → (∀ q, ¬ SW q → M'.1 10 0 q = M.1 10 0 q) → M'.1 10 0 9 ≠ 0 → FrM M' f N → Q M') : E_1050 M Q := by
  refine s_1050_0 ⟨fun h9 M1 e1 => ?_, fun h9 => (hfr h9).elim fun N hN => hQ M N Fx.rf (fun _ _ => rfl) h9 hN⟩
  have x1 : M1.1 10 0 = ups (M.1 10 0) 9 1 := by rw [e1, setI_at]
  have f1 : Fx TRM M M1 := by rw [e1]; exact Fx.setI (by unfold TRM; omega)
  refine c1028 (n := 2) (f := f) (by omega) (by omega) (by rw [(f1 1101 0 (by unfold TRM; omega)).1]; exact hf) hR fun M2 f2 hr => ?_
  have f2' : Fx TRM M M2 := f1.tr (f2.up fun t j h => by unfold TRM; omega)
  have x2 : M2.1 10 0 = ups (M.1 10 0) 9 1 := by rw [(f2 10 0 (by omega)).1, x1]
  refine w_halves (f := f) (by rw [(f2' 1101 0 (by unfold TRM; omega)).1]; exact hf) hR hr fun M3 N f3 hN h18 hh h10 hph => ?_
  have f3' : Fx TRM M M3 := f2'.tr (f3.up fun t j h => by unfold TW at h; unfold TRM; omega)
  refine w_rest (by rw [(f3' 1101 0 (by unfold TRM; omega)).1]; exact hf) hR hN h18 hh hph fun M4 f4 g10 hF => hQ M4 N (f3'.tr f4) (fun q hq => ?_) ?_ hF
  · rw [g10 q (Or.inl hq), h10 q (by unfold SW at hq; omega), x2, ups_ne (by unfold SW at hq; omega)]
  · rw [g10 9 (Or.inr rfl), h10 9 (by omega), x2, ups_at]; omega

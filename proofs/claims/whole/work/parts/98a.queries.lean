/-! queries: edges, corners, groups, symmetries, heights, areas -/
theorem isc (x y : Int) : (isCellV x y = 1 ∧ 0 ≤ x ∧ x < 12 ∧ 0 ≤ y ∧ y < 12) ∨ (isCellV x y = 0 ∧ ¬ (0 ≤ x ∧ x < 12 ∧ 0 ≤ y ∧ y < 12)) := by
  unfold isCellV
  by_cases h : 0 ≤ x ∧ x < 12 ∧ 0 ≤ y ∧ y < 12
  · rw [if_pos h]; exact Or.inl ⟨rfl, h⟩
  · rw [if_neg h]; exact Or.inr ⟨rfl, h⟩
theorem NK0 : ¬ NK 0 := by unfold NK; omega
theorem i1050q {M M1 : Mm} {Q : Mm → Prop} (h : Inv M) (c : CQ M M1) (hQ : ∀ M2, RQ M1 M2 → FrM M2 (M.1 500 0) (nP (M.1 500 0)) → Q M2) : E_1050 M1 Q := by
  refine i1050 (M0 := M1) (c.mi h) Fx.rf (fun _ _ => rfl) fun M2 m hM _ _ _ => hQ M2 m ?_
  rw [c.f] at hM
  exact hM
theorem i1050s {M M1 M1' : Mm} {v : Int} {Q : Mm → Prop} (h : Inv M) (c : CQ M M1) (e : M1' = setI M1 10 0 0 v) (hQ : ∀ M2, RQ M1 M2 → FrM M2 (M.1 500 0) (nP (M.1 500 0)) → Q M2) : E_1050 M1' Q := by
  refine i1050 (M0 := M1) ((c.mi h).set e NK0) (by rw [e]; exact Fx.setI (by unfold TMX; omega)) (fun q hq => by rw [e, setI_at, ups_ne (fun z => NK0 (by rw [← z]; exact hq))]) fun M2 m hM _ _ _ => hQ M2 m ?_
  rw [c.f] at hM
  exact hM
theorem out_eq {M1 M2 : Mm} {v : Int64} (m : RQ (setJ M1 50 0 0 v) M2) : M2.2 50 0 0 = v := by
  rw [(m.1 50 0 (by unfold TMQ; omega)).2, setJ_at, upj_at]
section Fin
variable {M M1 M2 : Mm} {K : Mm → Prop}
theorem fin0 {v b : Int} (h : Inv M) (hK : ∀ M', Inv M' → K M') (c : CQ M M1) (m : RQ (setJ M1 50 0 0 ((Int32.ofInt v).toInt64)) M2) (h0 : M2.1 10 0 0 = 0) (e : b = v) : M2.1 10 0 0 = 0 ∧ ((0 : Int) = 0 → M2.2 50 0 0 = (Int32.ofInt b).toInt64) ∧ K M2 := ⟨h0, fun _ => by rw [out_eq m, e], hK _ (h.q (c.out _) m)⟩
theorem fin1 {b r : Int} (h : Inv M) (hK : ∀ M', Inv M' → K M') (c : CQ M M1) (m : RQ M1 M2) (h0 : M2.1 10 0 0 = r) (hr : r ≠ 0) : M2.1 10 0 0 = r ∧ (r = 0 → M2.2 50 0 0 = (Int32.ofInt b).toInt64) ∧ K M2 := ⟨h0, fun e => absurd e hr, hK _ (h.q c m)⟩
end Fin
theorem thr_v {M M' : Mm} {v : Int} (e : M' = setI M 10 0 0 v) : M'.1 10 0 0 = v := by rw [e, setI_at, ups_at]
section Kinds
variable {M : Mm} {K : Mm → Prop}
theorem k9 {x y : Int} (h : Inv M) (hK : ∀ M', Inv M' → K M') : W_1206 x y M (fun (r : Int) (M1 : Mm) => E_1024 x y M1 (fun (b : Int) (M2 : Mm) => M2.1 10 0 0 = r ∧ (r = 0 → M2.2 50 0 0 = (if b = 0 then Int64.ofNat 0 else Int64.ofNat 1)) ∧ K M2)) := by
  have hi := isc x y
  have v1 := inV_p x 0 11
  have v2 := inV_p y 0 11
  have c := CQ.rf h
  have hR := h.1.1
  refine w_1206 (x_910 ⟨fun hc => ⟨?_, ?_⟩, fun hc => ⟨rfl, ?_⟩⟩)
  · rw [hasV_cel hR]; exact b2i_c _
  · refine s_1024_0 ⟨fun hz => by omega, fun _ b eb M2 e2 => ?_⟩
    rw [if_neg (by omega)] at eb
    rw [eb] at e2
    have m := (RQ.rf ((c.out (if hasV (M.1 500 0) x y = 0 then Int64.ofNat 0 else Int64.ofNat 1)).mi h)).set e2 NK0
    refine ⟨fun hne => absurd (thr_v e2) hne, fun _ b2 eb2 => ?_⟩
    have e1101 : M2.1 1101 0 = M.1 1101 0 := by rw [e2, setI_ne (by omega)]; rfl
    rw [e1101, hasW_cel (hR.cg h.1.2), cel_cg h.1.2] at eb2
    have hb : b2 = b2i (cel (M.1 500 0) x y) := by rw [eb2]; cases cel (M.1 500 0) x y <;> rfl
    rw [hb]
    refine ⟨b2i_c _, thr_v e2, fun _ => ?_, hK _ (h.q (c.out _) m)⟩
    rw [out_eq m, hasV_cel hR]
  · refine s_1024_0 ⟨fun hz M2 e2 => ⟨fun _ => ⟨thr_v e2, fun e => absurd e (by decide), hK _ (h.q c ((RQ.rf (c.mi h)).set e2 NK0))⟩, fun h0 => by rw [thr_v e2] at h0; exact absurd h0 (by decide)⟩, fun _ b eb M2 e2 => ?_⟩
    rw [if_pos (by omega)] at eb
    rw [eb] at e2
    exact ⟨fun _ => ⟨thr_v e2, fun e => absurd e (by decide), hK _ (h.q c ((RQ.rf (c.mi h)).set e2 NK0))⟩, fun h0 => by rw [thr_v e2] at h0; exact absurd h0 (by decide)⟩
theorem k10 (h : Inv M) (hK : ∀ M', Inv M' → K M') : E_911 M (fun (r : Int) (M1 : Mm) => E_1051 M1 (fun (b : Int) (M2 : Mm) => r = b ∧ K M2)) := by
  refine s_911_0 (i502 h fun M1 c hF hN => s_1051_0 fun M2 e2 => i1050s h c e2 fun M3 m hM => ⟨?_, hK _ (h.q c m)⟩)
  obtain ⟨-, -, -, -, -, hE, -⟩ := hF
  obtain ⟨-, -, -, -, -, gE, -⟩ := hM
  rw [gE.1]
  exact hE.1.1
/-- the contour of an edge -/
noncomputable def conI (P : Int → Int → Bool) (e : Nat) : Nat := @dite Nat (∃ c, c < vN P ∧ vS P c ≤ e ∧ e < vS P (c + 1)) (Classical.propDecidable _) (fun h => Classical.choose h) (fun _ => 0)
theorem conI_s {P : Int → Int → Bool} (h : Vok P) {e : Nat} (he : e < vE P) : conI P e < vN P ∧ vS P (conI P e) ≤ e ∧ e < vS P (conI P e + 1) := by
  have hex : ∃ c, c < vN P ∧ vS P c ≤ e ∧ e < vS P (c + 1) := h.1.1.find he
  unfold conI
  rw [dif_pos hex]
  exact Classical.choose_spec hex
/-- how many cells in an edge's face -/
noncomputable def fcN (f : Nat → Int) (e n : Nat) : Nat := cntB (fun c => decide (fcC f c = e)) n
noncomputable def edV (f : Nat → Int) (e : Nat) (w : Int) : Int := if w = 0 then xD (lay f 1) e else if w = 1 then xL (lay f 1) e else if w = 2 then xA (lay f 1) e else if w = 3 then xB (lay f 1) e else if w = 4 then (conI (lay f 1) e : Int) else if w = 5 then (fcN f e 144 : Int) else (prf (drB f e) (nP f) : Int)
theorem c520 {f : Nat → Int} {e : Nat} {M : Mm} {Q : Int → Mm → Prop} (hf : ∀ c, c < 144 → M.1 609 0 c = fcC f c) (hQ : Q (fcN f e 144) M) : E_520 (e : Int) M Q := by
  refine s_520_0 ?_
  have key : ∀ s c : Nat, c + s = 144 → L_520_4 (e : Int) (fcN f e c : Int) (c : Int) M Q := by
    intro s
    induction s with
    | zero =>
      intro c hc
      have ec : c = 144 := by omega
      refine s_520_4 ⟨fun _ => by rw [ec]; exact hQ, fun h => by omega⟩
    | succ s ih =>
      intro c hc
      have hle : fcN f e c ≤ c := cntB_le _ _
      refine s_520_4 ⟨fun h => by omega, fun _ => ⟨by omega, ?_⟩⟩
      rw [Int.toNat_natCast, hf c (by omega)]
      refine ⟨fun _ => by omega, fun x ex => ⟨by omega, ?_⟩⟩
      have e' : x = (fcN f e (c + 1) : Int) := by
        rw [ex]
        unfold fcN
        by_cases q : fcC f c = e
        · rw [cntB_y (b := fun c => decide (fcC f c = e)) (decide_eq_true q), if_neg (fun g => g q)]; rfl
        · rw [cntB_n (b := fun c => decide (fcC f c = e)) (decide_eq_false q), if_pos q]
      rw [e']
      have := ih (c + 1) (by omega)
      rwa [show ((c + 1 : Nat) : Int) = (c : Int) + 1 by omega] at this
  exact key 144 0 (by omega)
theorem c1052_128 {f : Nat → Int} {e : Nat} {w : Int} {M : Mm} {Q : Int → Mm → Prop} (hf : ∀ c, c < 144 → M.1 1140 0 c = fcC f c) (hQ : Q (fcN f e 144) M) : L_1052_128 (e : Int) w 0 0 M Q := by
  have key : ∀ s c : Nat, c + s = 144 → L_1052_128 (e : Int) w (fcN f e c : Int) (c : Int) M Q := by
    intro s
    induction s with
    | zero =>
      intro c hc
      have ec : c = 144 := by omega
      refine s_1052_128 ⟨fun _ => by rw [ec]; exact hQ, fun h => by omega⟩
    | succ s ih =>
      intro c hc
      have hle : fcN f e c ≤ c := cntB_le _ _
      refine s_1052_128 ⟨fun h => by omega, fun _ => ⟨by omega, fun b eb => ?_⟩⟩
      rw [Int.toNat_natCast, hf c (by omega)] at eb
      have hb : b = 0 ∨ b = 1 := by rw [eb]; split <;> omega
      refine ⟨by omega, fun x ex => ⟨by omega, ?_⟩⟩
      have e' : x = (fcN f e (c + 1) : Int) := by
        rw [ex, eb]
        unfold fcN
        by_cases q : fcC f c = e
        · rw [cntB_y (b := fun c => decide (fcC f c = e)) (decide_eq_true q), if_neg (fun g => g q)]; rfl
        · rw [cntB_n (b := fun c => decide (fcC f c = e)) (decide_eq_false q), if_pos q]; exact Int.add_zero _
      rw [e']
      have := ih (c + 1) (by omega)
      rwa [show ((c + 1 : Nat) : Int) = (c : Int) + 1 by omega] at this
  exact key 144 0 (by omega)
theorem vE_N {f : Nat → Int} {N e : Nat} (h : IsN f N) (he : e < vE (lay f 1)) : 0 < N := Classical.byContradiction fun hn => by
  have h0 : N = 0 := by omega
  rw [h0] at h
  have := h.emp.2.1
  have e2 : vE (PL f 0) = vE (lay f 1) := rfl
  omega
theorem c519 {f : Nat → Int} {e : Nat} {w : Int} {M : Mm} {Q : Int → Mm → Prop} (hF : FrC M f (nP f)) (he : e < vE (lay f 1)) (hQ : Q (edV f e w) M) : E_519 (e : Int) w M Q := by
  obtain ⟨hI, hT, hk, -, hv, hE, -, hf⟩ := hF
  have h12 := hI.le
  have hG := EG.of hv
  have hN0 := vE_N hI he
  obtain ⟨b1, b2, b3, b4⟩ := hE.1.at hG he
  unfold edV at hQ
  refine s_519_0 ⟨fun hw => ?_, fun hw => ?_, fun hw => ?_, fun hw => ?_, fun hw => ?_, fun hw => ?_, fun hw => ?_⟩
  · rw [if_pos hw] at hQ; rw [b1]; exact hQ
  · rw [if_neg (by omega), if_pos hw] at hQ; rw [b2]; exact hQ
  · rw [if_neg (by omega), if_neg (by omega), if_pos hw] at hQ; rw [b3]; exact hQ
  · rw [if_neg (by omega), if_neg (by omega), if_neg (by omega), if_pos hw] at hQ; rw [b4]; exact hQ
  · rw [if_neg (by omega), if_neg (by omega), if_neg (by omega), if_neg (by omega), if_pos hw] at hQ
    have e0 : phV (M.1 5 0 11) 0 = 0 := by rw [hT.1.1]; exact phV_in (p := 0) (by omega) (by omega)
    rw [e0]
    obtain ⟨c1, c2, c3⟩ := conI_s hv he
    exact c211 (hk 0 hN0).2 (Sok.of (f := f) (k := 0) hv) c1 c2 c3 hQ
  · rw [if_neg (by omega), if_neg (by omega), if_neg (by omega), if_neg (by omega), if_neg (by omega), if_pos hw] at hQ
    exact c520 hf hQ
  · rw [if_neg (by omega), if_neg (by omega), if_neg (by omega), if_neg (by omega), if_neg (by omega), if_neg (by omega)] at hQ
    exact c521 hT.1.1 h12 (fun p hp => (hk p hp).2) hG hE he hQ
theorem k11 {x w : Int} (h : Inv M) (hK : ∀ M', Inv M' → K M') : W_1207 x w M (fun (r : Int) (M1 : Mm) => E_1052 x w M1 (fun (b : Int) (M2 : Mm) => M2.1 10 0 0 = r ∧ (r = 0 → M2.2 50 0 0 = (Int32.ofInt b).toInt64) ∧ K M2)) := by
  refine w_1207 (x_912 (i502 h fun M1 c hF hN => ?_))
  have e8 : M1.1 0 0 8 = vE (lay (M.1 500 0) 1) := hF.2.2.2.2.2.1.1.1
  have hG := EG.of hF.2.2.2.2.1
  have h312 := hG.1
  rw [e8]
  have bad1 : ¬ (0 ≤ x ∧ x < vE (lay (M.1 500 0) 1)) → E_1052 x w M1 (fun (b : Int) (M2 : Mm) => M2.1 10 0 0 = 1 ∧ ((1 : Int) = 0 → M2.2 50 0 0 = (Int32.ofInt b).toInt64) ∧ K M2) := fun hx => by
    refine s_1052_0 (i1050q h c fun M2 m hM => ?_)
    have g34 : M2.1 10 0 34 = vE (lay (M.1 500 0) 1) := hM.2.2.2.2.2.1.1
    rw [g34]
    have hv := inV_p x 0 ((vE (lay (M.1 500 0) 1) : Int) - 1)
    exact ⟨by omega, fun hin => by omega, fun _ M3 e3 => ⟨fun h0 => by rw [thr_v e3] at h0; exact absurd h0 (by decide), fun _ => fin1 h hK c (m.set e3 NK0) (thr_v e3) (by decide)⟩⟩
  have bad2 : 0 ≤ x → x < vE (lay (M.1 500 0) 1) → ¬ (0 ≤ w ∧ w ≤ 6) → E_1052 x w M1 (fun (b : Int) (M2 : Mm) => M2.1 10 0 0 = 2 ∧ ((2 : Int) = 0 → M2.2 50 0 0 = (Int32.ofInt b).toInt64) ∧ K M2) := fun hx hx2 hw => by
    refine s_1052_0 (i1050q h c fun M2 m hM => ?_)
    have g34 : M2.1 10 0 34 = vE (lay (M.1 500 0) 1) := hM.2.2.2.2.2.1.1
    rw [g34]
    have hv := inV_p x 0 ((vE (lay (M.1 500 0) 1) : Int) - 1)
    have hv2 := inV_p w 0 6
    refine ⟨by omega, fun hin b eb M3 e3 => ?_, fun hz => by omega⟩
    rw [if_neg (by omega)] at eb
    rw [eb] at e3
    exact ⟨fun h0 => by rw [thr_v e3] at h0; exact absurd h0 (by decide), fun _ => fin1 h hK c (m.set e3 NK0) (thr_v e3) (by decide)⟩
  refine ⟨fun hx => Or.inl ⟨rfl, bad1 (by omega)⟩, fun hx => ⟨fun hx2 => ⟨fun hw => Or.inr ⟨rfl, bad2 hx hx2 (by omega)⟩, fun hw => ⟨fun hw2 => ?_, fun hw2 => Or.inr ⟨rfl, bad2 hx hx2 (by omega)⟩⟩⟩, fun hx2 => Or.inl ⟨rfl, bad1 (by omega)⟩⟩⟩
  obtain ⟨e, rfl⟩ : ∃ e : Nat, x = e := ⟨x.toNat, by omega⟩
  have he : e < vE (lay (M.1 500 0) 1) := by omega
  refine c519 hF he ?_
  refine s_1052_0 (i1050q h (c.out _) fun M2 m hM => ?_)
  have g34 : M2.1 10 0 34 = vE (lay (M.1 500 0) 1) := hM.2.2.2.2.2.1.1
  rw [g34]
  have hv := inV_p (e : Int) 0 ((vE (lay (M.1 500 0) 1) : Int) - 1)
  have hv2 := inV_p w 0 6
  refine ⟨by omega, fun _ b eb M3 e3 => ?_, fun hz => by omega⟩
  rw [if_pos (by omega)] at eb
  rw [eb] at e3
  have m3 := m.set e3 NK0
  have t3 := thr_v e3
  have hM3 : FrM M3 (M.1 500 0) (nP (M.1 500 0)) := hM.mx (by rw [e3]; exact Fx.setI (by unfold TMX; omega)) fun q hq => by rw [e3, setI_at, ups_ne (fun z => NK0 (by rw [← z]; exact hq))]
  obtain ⟨gI, gT, gh, gk, gv, gE, gc, gf, -⟩ := hM3
  obtain ⟨d1, d2, d3, d4⟩ := gE.2 e he
  refine ⟨fun _ => ?_, fun hne => absurd t3 hne⟩
  rw [Int.toNat_natCast]
  refine ⟨fun hw => ⟨by omega, fin0 h hK c m3 t3 ?_⟩, fun hw => ⟨by omega, fin0 h hK c m3 t3 ?_⟩, fun hw => ⟨by omega, fin0 h hK c m3 t3 ?_⟩, fun hw => ⟨by omega, fin0 h hK c m3 t3 ?_⟩, fun hw => ⟨by omega, fin0 h hK c m3 t3 ?_⟩, fun hw => c1052_128 gf (fin0 h hK c m3 t3 ?_), fun hw => c1047 gT.1.1 gI.le (fun p hp => (gk p hp).2.1) (EG.of gv) gE he fun M4 r4 => fin0 h hK c (m3.r10 r4 fun q hq => by unfold S30 at hq; unfold NK; omega) (by rw [r4.2 0 (by unfold S30; omega)]; exact t3) ?_⟩
  · unfold edV; rw [if_pos hw]; exact d1
  · unfold edV; rw [if_neg (by omega), if_pos hw]; exact d2
  · unfold edV; rw [if_neg (by omega), if_neg (by omega), if_pos hw]; exact d3
  · unfold edV; rw [if_neg (by omega), if_neg (by omega), if_neg (by omega), if_pos hw]; exact d4
  · unfold edV; rw [if_neg (by omega), if_neg (by omega), if_neg (by omega), if_neg (by omega), if_pos hw]
    obtain ⟨c1, c2, c3⟩ := conI_s gv he
    exact gc _ e c1 c2 c3
  · unfold edV; rw [if_neg (by omega), if_neg (by omega), if_neg (by omega), if_neg (by omega), if_neg (by omega), if_pos hw]
  · unfold edV; rw [if_neg (by omega), if_neg (by omega), if_neg (by omega), if_neg (by omega), if_neg (by omega), if_neg (by omega)]
theorem k12 (h : Inv M) (hK : ∀ M', Inv M' → K M') : E_913 M (fun (r : Int) (M1 : Mm) => E_1053 M1 (fun (b : Int) (M2 : Mm) => r = b ∧ K M2)) := by
  have c := CQ.rf h
  refine s_913_0 (c413 h.1.1 (s_1053_0 fun M2 e2 => i1050s h c e2 fun M3 m hM => c1053_11 hM.2.2.2.2.1 hM.2.2.2.2.2.1 fun M4 f4 => ⟨rfl, hK _ (h.q c (m.st (f4.up fun t j g => by unfold T1053 at g; unfold TMX; omega) fun q _ => by rw [(f4 10 0 (by unfold T1053; omega)).1]))⟩))
theorem k13 (h : Inv M) (hK : ∀ M', Inv M' → K M') : E_914 M (fun (r : Int) (M1 : Mm) => E_1056 M1 (fun (b : Int) (M2 : Mm) => r = b ∧ K M2)) := by
  refine s_914_0 (i502 h fun M1 c hF hN => s_1056_0 fun M2 e2 => i1050s h c e2 fun M3 m hM => ?_)
  obtain ⟨-, -, -, -, -, hE, -⟩ := hF
  obtain ⟨-, -, -, -, gv, gE, -⟩ := hM
  refine c1055 (EG.of gv) gE fun M4 r r4 g4 _ => ⟨?_, hK _ (h.q c (m.r10 r4 fun q hq => by unfold S52 at hq; unfold NK; omega))⟩
  rw [g4]
  exact hE.2.2.2.2.1
/-- the reference's sums over a group -/
theorem c1057_84 {P : Int → Int → Bool} {i : Nat} {x w : Int} {M : Mm} {Q : Int → Mm → Prop} (hg : EG P) (hE : Edm M P) (hi : i < vE P) (hw : w = 2 ∨ w = 3) (hQ : Q (gpV P i w) M) : L_1057_84 x w (i : Int) 0 0 M Q := by
  have h312 := hg.1
  have val : ∀ n, n ≤ vE P → -(12 * (n : Int)) ≤ (if w = 2 then (cK (xK P) n (xK P i) : Int) else xW P (xK P i) n) ∧ (if w = 2 then (cK (xK P) n (xK P i) : Int) else xW P (xK P i) n) ≤ 12 * (n : Int) := fun n hn => by
    have hc : cK (xK P) n (xK P i) ≤ n := cntB_le _ _
    have hx := xW_bd hg (κ := xK P i) hn
    split <;> omega
  have key : ∀ s n : Nat, n + s = vE P → L_1057_84 x w (i : Int) (if w = 2 then (cK (xK P) n (xK P i) : Int) else xW P (xK P i) n) (n : Int) M Q := by
    intro s
    induction s with
    | zero =>
      intro n hn
      have en : n = vE P := by omega
      refine s_1057_84 ⟨fun _ => ?_, fun g => by rw [hE.1] at g; omega⟩
      unfold gpV at hQ
      rw [if_neg (by omega), if_neg (by omega)] at hQ
      rw [en]; exact hQ
    | succ s ih =>
      intro n hn
      have hb := val n (by omega)
      obtain ⟨d1, d2, d3, d4⟩ := hE.2 n (by omega)
      obtain ⟨-, -, g3, g4⟩ := hg.2 n (by omega)
      have g3' : 0 ≤ xA P n ∧ xA P n ≤ 12 := g3
      have g4' : 0 ≤ xB P n ∧ xB P n ≤ 12 := g4
      clear g3 g4
      refine s_1057_84 ⟨fun g => by rw [hE.1] at g; omega, fun _ => ?_⟩
      rw [Int.toNat_natCast, Int.toNat_natCast, like_k hg hE hi (by omega), d3, d4]
      refine ⟨by omega, fun _ _ => ⟨by omega, by omega⟩, fun b eb => ?_⟩
      have rb : -12 ≤ b ∧ b ≤ 12 := by
        rw [eb]
        split
        · split <;> omega
        · omega
      refine ⟨by omega, fun y ey => ⟨by omega, ?_⟩⟩
      have e : y = (if w = 2 then (cK (xK P) (n + 1) (xK P i) : Int) else xW P (xK P i) (n + 1)) := by
        rw [ey]
        by_cases q : xK P n = xK P i
        · have eb1 : b = if w ≠ 2 then xB P n - xA P n else 1 := by rw [eb, if_pos (by rw [if_pos q.symm]; decide)]
          rw [eb1]
          by_cases q2 : w = 2
          · rw [if_pos q2, if_neg (fun g => g q2), if_pos q2, cK_y (xK P) q]; rfl
          · rw [if_neg q2, if_pos q2, if_neg q2, xW_y q]
        · have eb1 : b = 0 := by rw [eb, if_neg (by rw [if_neg (fun g => q g.symm)]; exact fun g => g rfl)]
          rw [eb1, Int.add_zero]
          by_cases q2 : w = 2
          · rw [if_pos q2, if_pos q2, cK_n (xK P) q]
          · rw [if_neg q2, if_neg q2, xW_n q]
      rw [e]
      have := ih (n + 1) (by omega)
      rwa [show ((n + 1 : Nat) : Int) = (n : Int) + 1 by omega] at this
  have := key (vE P) 0 (by omega)
  have e0 : (if w = 2 then (cK (xK P) 0 (xK P i) : Int) else xW P (xK P i) 0) = 0 := by split <;> rfl
  rw [e0] at this
  exact this
theorem k14 {x w : Int} (h : Inv M) (hK : ∀ M', Inv M' → K M') : W_1208 x w M (fun (r : Int) (M1 : Mm) => E_1057 x w M1 (fun (b : Int) (M2 : Mm) => M2.1 10 0 0 = r ∧ (r = 0 → M2.2 50 0 0 = (Int32.ofInt b).toInt64) ∧ K M2)) := by
  refine w_1208 (x_915 (i502 h fun M1 c hF hN => ?_))
  have e9 : M1.1 0 0 9 = xG (lay (M.1 500 0) 1) := hF.2.2.2.2.2.1.2.2.2.2.1
  have hG := EG.of hF.2.2.2.2.1
  rw [e9]
  have bad1 : ¬ (0 ≤ x ∧ x < xG (lay (M.1 500 0) 1)) → E_1057 x w M1 (fun (b : Int) (M2 : Mm) => M2.1 10 0 0 = 1 ∧ ((1 : Int) = 0 → M2.2 50 0 0 = (Int32.ofInt b).toInt64) ∧ K M2) := fun hx => by
    refine s_1057_0 (i1050q h c fun M2 m hM => ⟨fun hx0 => ?_, fun _ M3 e3 => ⟨fun h0 => by rw [thr_v e3] at h0; exact absurd h0 (by decide), fun _ => fin1 h hK c (m.set e3 NK0) (thr_v e3) (by decide)⟩⟩)
    refine c1055 hG hM.2.2.2.2.2.1 fun M3 r r3 g3 hr => ⟨fun hr0 => ?_, fun _ M4 e4 => ⟨fun h0 => by rw [thr_v e4] at h0; exact absurd h0 (by decide), fun _ => fin1 h hK c ((m.r10 r3 fun q hq => by unfold S52 at hq; unfold NK; omega).set e4 NK0) (thr_v e4) (by decide)⟩⟩
    rcases hr with ⟨i, e1, e2, e3⟩ | ⟨e1, -⟩
    · have := e3.lt
      omega
    · omega
  -- the first edge of the group
  have first : ∀ (M1' : Mm) (G : Int → Mm → Prop), CQ M M1' → 0 ≤ x → x < xG (lay (M.1 500 0) 1) → (∀ (M3 : Mm) (i : Nat), RQ M1' M3 → FrM M3 (M.1 500 0) (nP (M.1 500 0)) → Gf (lay (M.1 500 0) 1) x.toNat i → (∀ b_2 : Int, b_2 = (if inV w 0 3 ≠ 0 then 0 else 2) → (∀ M1_4 : Mm, M1_4 = setI M3 10 0 0 b_2 → ((M1_4.1 10 0 0 = 0 → ((2 ≤ w → (L_1057_84 x w (i : Int) 0 0 M1_4 G)) ∧ (w < 2 → ((w ≠ 0 → ((0 ≤ (i : Int) ∧ (i : Int) < 640))) ∧ (w = 0 → ((0 ≤ (i : Int) ∧ (i : Int) < 640))) ∧ (∀ b_3 : Int, b_3 = (if w ≠ 0 then (M1_4.1 1136 0 (i : Int).toNat) else (M1_4.1 1135 0 (i : Int).toNat)) → (G b_3 M1_4)))))) ∧ (M1_4.1 10 0 0 ≠ 0 → (G 0 M1_4)))))) → E_1057 x w M1' G := by
    intro M1' G c' hx0 hx1 hh
    refine s_1057_0 (i1050q h c' fun M2 m hM => ⟨fun _ => ?_, fun g => by omega⟩)
    refine c1055 hG hM.2.2.2.2.2.1 fun M3 r r3 g3 hr => ?_
    have m3 := m.r10 r3 fun q hq => by unfold S52 at hq; unfold NK; omega
    have hM3 : FrM M3 (M.1 500 0) (nP (M.1 500 0)) := hM.mx (r3.1.up fun t j g => by unfold TMX; omega) fun q hq => r3.2 q fun g => by unfold S52 at g; unfold NK at hq; omega
    rcases hr with ⟨i, e1, e2, e3⟩ | ⟨-, e2⟩
    · rw [e1]
      refine ⟨fun _ => hh M3 i m3 hM3 (by rw [show x.toNat = gN (xK (lay (M.1 500 0) 1)) i by omega]; exact e3), fun g => by omega⟩
    · omega
  have bad2 : 0 ≤ x → x < xG (lay (M.1 500 0) 1) → ¬ (0 ≤ w ∧ w ≤ 3) → E_1057 x w M1 (fun (b : Int) (M2 : Mm) => M2.1 10 0 0 = 2 ∧ ((2 : Int) = 0 → M2.2 50 0 0 = (Int32.ofInt b).toInt64) ∧ K M2) := fun hx hx2 hw => by
    refine first M1 _ c hx hx2 fun M3 i m3 hM3 hi b eb M4 e4 => ?_
    have hv2 := inV_p w 0 3
    rw [if_neg (by omega)] at eb
    rw [eb] at e4
    exact ⟨fun h0 => by rw [thr_v e4] at h0; exact absurd h0 (by decide), fun _ => fin1 h hK c (m3.set e4 NK0) (thr_v e4) (by decide)⟩
  refine ⟨fun hx => Or.inl ⟨rfl, bad1 (by omega)⟩, fun hx => ⟨fun hx2 => ⟨fun hw => Or.inr ⟨rfl, bad2 hx hx2 (by omega)⟩, fun hw => ⟨fun hw2 => ?_, fun hw2 => Or.inr ⟨rfl, bad2 hx hx2 (by omega)⟩⟩⟩, fun hx2 => Or.inl ⟨rfl, bad1 (by omega)⟩⟩⟩
  obtain ⟨g, rfl⟩ : ∃ g : Nat, x = g := ⟨x.toNat, by omega⟩
  obtain ⟨i, hi⟩ := Gf.ex (P := lay (M.1 500 0) 1) (g := g) (by omega)
  refine c10 hG hF.2.2.2.2.2.1 hi ?_
  refine first _ _ (c.out _) hx hx2 fun M3 i' m3 hM3 hi' b eb M4 e4 => ?_
  rw [Int.toNat_natCast] at hi'
  have ei := hi'.un hi
  subst ei
  have hv2 := inV_p w 0 3
  rw [if_pos (by omega)] at eb
  rw [eb] at e4
  have m4 := m3.set e4 NK0
  have t4 := thr_v e4
  have hM4 : FrM M4 (M.1 500 0) (nP (M.1 500 0)) := hM3.mx (by rw [e4]; exact Fx.setI (by unfold TMX; omega)) fun q hq => by rw [e4, setI_at, ups_ne (fun z => NK0 (by rw [← z]; exact hq))]
  have gE := hM4.2.2.2.2.2.1
  have h312 := hG.1
  have hi1 := hi.1
  obtain ⟨d1, d2, -, -⟩ := gE.2 i' hi1
  refine ⟨fun _ => ⟨fun hw3 => c1057_84 hG gE hi1 (by omega) (fin0 h hK c m4 t4 rfl), fun hw3 => ⟨fun _ => by omega, fun _ => by omega, fun b3 eb3 => fin0 h hK c m4 t4 ?_⟩⟩, fun hne => absurd t4 hne⟩
  rw [Int.toNat_natCast, d1, d2] at eb3
  rw [eb3]
  unfold gpV
  by_cases q : w = 0
  · rw [if_neg (fun g => g q), if_pos q]
  · rw [if_pos q, if_neg q, if_pos (by omega)]
theorem k15 (h : Inv M) (hK : ∀ M', Inv M' → K M') : E_916 M (fun (r : Int) (M1 : Mm) => E_1061 M1 (fun (b : Int) (M2 : Mm) => r = b ∧ K M2)) := by
  refine s_916_0 (c409 (by omega) h.1.1 fun M1 f1 => ?_)
  have c : CQ M M1 := (CQ.rf h).up (f1.up fun t j g => by unfold TCX; omega)
  refine s_1061_0 fun M2 e2 => ?_
  have e1101 : M2.1 1101 0 = M.1 1101 0 := by rw [e2, setI_ne (by omega), (f1 1101 0 (by omega)).1]
  refine c1061_9 e1101 (h.1.1.cg h.1.2) ⟨?_, hK _ (h.q c ((RQ.rf (c.mi h)).set e2 NK0))⟩
  rw [cel_cg h.1.2]
end Kinds

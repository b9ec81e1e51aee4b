/-! the class works everything out -/
theorem CTr.fx2 {M M' : Mm} {N : Nat} {cnt : Nat → Nat} {pr : Nat → Nat → Int} (h : CTr M N cnt pr) (e5 : M'.1 5 0 11 = M.1 5 0 11) (e : ∀ t j, t = 3 ∨ t = 407 ∨ t = 408 → M'.1 t j = M.1 t j) : CTr M' N cnt pr := by
  unfold CTr
  rw [e5, e 3 12 (by omega)]
  refine ⟨h.1, fun k hk => ?_⟩
  rw [e 3 k (by omega), e 407 k (by omega), e 408 k (by omega)]
  exact h.2 k hk
theorem ClO.fx {M M' : Mm} {k n : Nat} {P : Int → Int → Bool} {st : Nat → Nat} {xs ys : Nat → Int} {ln : Nat → Nat} (h : ClO M k P n st xs ys ln) (e : ∀ t, t = 2 ∨ (300 ≤ t ∧ t ≤ 308) → M'.1 t k = M.1 t k) : ClO M' k P n st xs ys ln := by
  unfold ClO SideC ConC
  rw [e 2 (by omega), e 300 (by omega), e 301 (by omega), e 302 (by omega), e 303 (by omega), e 304 (by omega), e 305 (by omega), e 306 (by omega), e 307 (by omega), e 308 (by omega)]
  exact h
theorem Cls.fx {M M' : Mm} {k : Nat} {P : Int → Int → Bool} (h : Cls M k P) (e : ∀ t, t = 2 ∨ (300 ≤ t ∧ t ≤ 308) → M'.1 t k = M.1 t k) : Cls M' k P := ClO.fx h e
/-- the phase that is none has nothing -/
def Non (M : Mm) : Prop := NoC M ∧ M.1 3 12 10 = 0 ∧ ∀ q, 11 ≤ q → q ≤ 15 → M.1 2 12 q = 0
theorem Non.fx {M M' : Mm} (h : Non M) (e : M'.1 402 12 = M.1 402 12 ∧ M'.1 3 12 = M.1 3 12 ∧ M'.1 2 12 = M.1 2 12 ∧ M'.2 401 12 = M.2 401 12) : Non M' := by
  obtain ⟨e1, e2, e3, e4⟩ := e
  unfold Non NoC
  rw [e1, e2, e3, e4]
  exact h
/-- a phase without cells has no contours -/
theorem Non.cls {M : Mm} {P : Int → Int → Bool} (h : Non M) (h0 : ∀ x y, P x y = false) (hg : InG P) : Cls M 12 P := by
  have hb : ∀ x y, bn P x y = false := fun x y => by
    unfold bn
    rw [h0, h0, h0, h0]
    rfl
  refine ClO.v (n := 0) (st := fun _ => 0) (xs := fun _ => 0) (ys := fun _ => 0) (ln := fun _ => 0) hg ⟨⟨⟨rfl, fun c hc => absurd hc (Nat.not_lt_zero c), fun i j hi => absurd hi (Nat.not_lt_zero i)⟩, fun x y hx => by rw [hb] at hx; cases hx⟩, fun i hi => absurd hi (Nat.not_lt_zero i), fun c hc => absurd hc (Nat.not_lt_zero c), ?_, ?_, ?_, ?_, ?_⟩
  · exact h.2.2 11 (by omega) (by omega)
  · exact h.2.2 12 (by omega) (by omega)
  · exact h.2.2 13 (by omega) (by omega)
  · exact h.2.2 14 (by omega) (by omega)
  · exact h.2.2 15 (by omega) (by omega)
/-- the phases below k, as they stand when k of them are built -/
def LoC (M : Mm) (f : Nat → Int) (k : Nat) : Prop := ∀ j, j < k → PhC M f j ∧ Cls M j (lay f (2 * j + 1)) ∧ M.1 3 j 10 = nc f j ∧ (∀ c, c < nc f j → M.1 407 j c = prK f j c) ∧ (j + 1 < k → ∀ b, b < nc f j → M.1 408 j b = kdn (nc f) (prK f) j b) ∧ (j + 1 = k → ∀ b, b < 72 → M.1 408 j b = 0)
def TRF (t j : Nat) : Prop := (t = 0 ∨ t = 5 ∨ t = 7 ∨ (100 ≤ t ∧ t ≤ 107) ∨ (605 ≤ t ∧ t ≤ 609) ∨ (800 ≤ t ∧ t ≤ 808)) ∧ j = 0 ∨ (t = 2 ∨ t = 3 ∨ (300 ≤ t ∧ t ≤ 310) ∨ (401 ≤ t ∧ t ≤ 408)) ∧ j < 12 ∨ t = 408 ∧ j = 12
theorem Non.trf {M M' : Mm} (h : Non M) (f : Fx TRF M M') : Non M' := h.fx ⟨(f 402 12 (by unfold TRF; omega)).1, (f 3 12 (by unfold TRF; omega)).1, (f 2 12 (by unfold TRF; omega)).1, (f 401 12 (by unfold TRF; omega)).2⟩
/-- everything that the class keeps of a region's roof -/
def FrC (M : Mm) (f : Nat → Int) (N : Nat) : Prop := IsN f N ∧ CTr M N (nc f) (prK f) ∧ (∀ k, k < N → PhC M f k ∧ Cls M k (lay f (2 * k + 1))) ∧ (∀ t, t < 26 → M.1 607 0 t = if t = 0 then 0 else (lcnt f (t - 1) : Int)) ∧ Vok (lay f 1) ∧ Edc M (lay f 1) ∧ (M.1 7 0 10 = (roots (nc f) (prK f)).length ∧ RecL M (nc f) (prK f) 0 (roots (nc f) (prK f)) ∧ Wys (roots (nc f) (prK f)).length (paL (roots (nc f) (prK f))) (M.1 805 0)) ∧ ∀ c, c < 144 → M.1 609 0 c = fcC f c
theorem FrC.fx {M M' : Mm} {f : Nat → Int} {N : Nat} (h : FrC M f N) (e5 : M'.1 5 0 11 = M.1 5 0 11) (e : ∀ t j, t ≠ 5 → TRF t j ∨ t = 3 → M'.1 t j = M.1 t j ∧ M'.2 t j = M.2 t j) : FrC M' f N := by
  obtain ⟨h1, h2, h3, h4, h5, h6, ⟨h7, h8, h9⟩, h10⟩ := h
  have hN := h1.le
  have e0 : ∀ t, t ≠ 5 → (t = 0 ∨ t = 5 ∨ t = 7 ∨ (100 ≤ t ∧ t ≤ 107) ∨ (605 ≤ t ∧ t ≤ 609) ∨ (800 ≤ t ∧ t ≤ 808)) → M'.1 t 0 = M.1 t 0 := fun t h5 ht => (e t 0 h5 (Or.inl (by unfold TRF; omega))).1
  have ek : ∀ t k, k < 12 → (t = 2 ∨ t = 3 ∨ (300 ≤ t ∧ t ≤ 310) ∨ (401 ≤ t ∧ t ≤ 408)) → M'.1 t k = M.1 t k ∧ M'.2 t k = M.2 t k := fun t k hk ht => e t k (by omega) (Or.inl (by unfold TRF; omega))
  refine ⟨h1, ?_, fun k hk => ⟨(h3 k hk).1.keep ⟨⟨by rw [(ek 3 k (by omega) (by omega)).1], (ek 402 k (by omega) (by omega)).1, (ek 404 k (by omega) (by omega)).1, (ek 405 k (by omega) (by omega)).1⟩, (ek 401 k (by omega) (by omega)).2, (ek 403 k (by omega) (by omega)).2⟩, (h3 k hk).2.fx fun t ht => (ek t k (by omega) (by omega)).1⟩, fun t ht => by rw [e0 607 (by omega) (by omega)]; exact h4 t ht, h5, h6.fx fun t ht => e0 t (by omega) (by omega), ⟨?_, h8.fx (Nat.le_refl _) fun q _ t t1 t2 => by rw [e0 t (by omega) (by omega)], ?_⟩, fun c hc => by rw [e0 609 (by omega) (by omega)]; exact h10 c hc⟩
  · obtain ⟨g1, g2⟩ := h2
    unfold CTr
    rw [e5, (e 3 12 (by omega) (Or.inr rfl)).1]
    refine ⟨g1, fun k hk => ?_⟩
    rw [(ek 3 k (by omega) (by omega)).1, (ek 407 k (by omega) (by omega)).1, (ek 408 k (by omega) (by omega)).1]
    exact g2 k hk
  · rw [e0 7 (by omega) (by omega)]; exact h7
  · rw [e0 805 (by omega) (by omega)]; exact h9
theorem c502 {i : Nat} {f : Nat → Int} {M : Mm} {Q : Mm → Prop} (hf : M.1 500 i = f) (hR : R12 f) (hNo : Non M) (hfr : M.1 5 0 10 ≠ 0 → ∃ N, FrC M f N) (hQ : ∀ M' N, Fx TRF M M' → M'.1 5 0 10 ≠ 0 → FrC M' f N → Non M' → Q M') : E_502 i M Q := by
  refine s_502_0 ⟨fun h10 => ?_, fun h10 => (hfr h10).elim fun N hN => hQ M N Fx.rf h10 hN hNo⟩
  refine c507 hf hR fun M1 N f1 hN h11 h607 h608 hRep => ?_
  have hN12 := hN.le
  have f1' : Fx TRF M M1 := f1.up fun t j h => by unfold TM at h; unfold TRF; omega
  have loop : ∀ (s k : Nat) (M' : Mm), k + s = N → Fx TRF M M' → M'.1 5 = M1.1 5 → M'.1 607 = M1.1 607 → M'.1 608 = M1.1 608 → (∀ j, k ≤ j → j < N → M'.2 401 j = M1.2 401 j) → LoC M' f k → L_502_20 i (bef k) (k : Int) M' Q := by
    intro s
    induction s with
    | zero =>
      intro k M' hk hf' g5 g607 g608 gRep hL
      have ek : k = N := by omega
      subst ek
      have h11' : M'.1 5 0 11 = k := by rw [g5]; exact h11
      have hNo' := hNo.trf hf'
      refine s_502_20 ?_
      rw [h11']
      refine ⟨fun _ => ?_, fun h => by omega⟩
      have hcls : Cls M' (phV (k : Int) 0) (lay f 1) := by
        by_cases h0 : k = 0
        · rw [h0]
          have e : phV ((0 : Nat) : Int) 0 = 12 := by unfold phV; rw [if_neg (by omega)]
          rw [e]
          refine hNo'.cls (fun x y => ?_) (lay_g f 1)
          have := hN.2
          rw [h0] at this
          exact lcnt_0.mp this x y
        · have e : phV (k : Int) 0 = 0 := phV_in (p := 0) (by omega) (by omega)
          rw [e]
          exact (hL 0 (by omega)).2.1
      have hv : Vok (lay f 1) := hcls.ok
      have hE := EG.of hv
      refine c1 hE (lay_g f 1) (pk_nod f 0) hcls fun M2 f2 hEc => ?_
      have hct : CTr M2 k (nc f) (prK f) := by
        refine ⟨⟨?_, hN12, ?_, fun j hj => hN.nc0 hj⟩, fun j hj => ?_⟩
        · rw [(f2 5 0 (by unfold TE; omega)).1]; exact h11'
        · rw [(f2 3 12 (by unfold TE; omega)).1]; exact hNo'.2.1
        · obtain ⟨a1, a2, a3, a4, a5, a6⟩ := hL j hj
          rw [(f2 3 j (by unfold TE; omega)).1, (f2 407 j (by unfold TE; omega)).1, (f2 408 j (by unfold TE; omega)).1]
          refine ⟨a3, nc_le f j, a4, fun b hb => ?_⟩
          by_cases q : j + 1 = k
          · rw [a6 q b (Nat.lt_of_lt_of_le hb (nc_le f j))]
            unfold kdn
            rw [hN.nc0 (k := j + 1) (by omega)]
            rfl
          · exact a5 (by omega) b hb
      have hlen := roots_le hN
      refine c701 hct (by omega) fun M3 f3 t1 t2 t3 => ?_
      have f23 : Fx (fun t j => TE t j ∨ T701 t j) M' M3 := (f2.up fun t j h => Or.inl h).tr (f3.up fun t j h => Or.inr h)
      have nE : ∀ t j, ¬ (t ≤ 107 ∧ t ≠ 5 ∧ t ≠ 3 ∧ t ≠ 2) → ¬ (800 ≤ t ∧ t ≤ 808) → ¬ (TE t j ∨ T701 t j) := fun t j h1 h2 h => by unfold TE T701 TGr TWy at h; omega
      have hEc3 : Edc M3 (lay f 1) := Edc.fx hEc fun t ht => (f3 t 0 (by unfold T701 TGr TWy; omega)).1
      refine c516 (fun c hc => ?_) hE hEc3 fun M4 f4 hfc M5 e5 => ?_
      · rw [(f23 608 0 (nE 608 0 (by omega) (by omega))).1, g608]; exact h608 c hc
      have k4 : ∀ t j, t ≠ 609 → M4.1 t j = M3.1 t j ∧ M4.2 t j = M3.2 t j := fun t j ht => f4 t j (by unfold TF; omega)
      have k5 : ∀ t j, t ≠ 5 → M5.1 t j = M4.1 t j ∧ M5.2 t j = M4.2 t j := fun t j ht => by rw [e5]; exact ⟨setI_ne (by omega), rfl⟩
      have q5 : M5.1 5 0 = ups (M'.1 5 0) 10 1 := by rw [e5, setI_at, (k4 5 0 (by omega)).1, (f23 5 0 (nE 5 0 (by omega) (by omega))).1]
      have kA : ∀ t j, t ≠ 5 → t ≠ 609 → ¬ (t ≤ 107 ∧ t ≠ 5 ∧ t ≠ 3 ∧ t ≠ 2) → ¬ (800 ≤ t ∧ t ≤ 808) → M5.1 t j = M'.1 t j ∧ M5.2 t j = M'.2 t j := fun t j n1 n2 n3 n4 => by
        have a := k5 t j n1
        have b := k4 t j n2
        have c := f23 t j (nE t j n3 n4)
        exact ⟨a.1.trans (b.1.trans c.1), a.2.trans (b.2.trans c.2)⟩
      have kB : ∀ t j, t ≠ 5 → t ≠ 609 → M5.1 t j = M3.1 t j := fun t j n1 n2 => (k5 t j n1).1.trans (k4 t j n2).1
      have fAll : Fx TRF M M5 := by
        refine (hf'.tr (f23.up fun t j h => ?_)).tr ((f4.up fun t j h => ?_).tr ?_)
        · unfold TE T701 TGr TWy at h; unfold TRF; omega
        · unfold TF at h; unfold TRF; omega
        · rw [e5]; exact Fx.setI (by unfold TRF; omega)
      refine hQ M5 k fAll (by rw [q5, ups_at]; omega) ⟨hN, ?_, fun j hj => ?_, fun t ht => ?_, hv, ?_, ⟨?_, ?_, ?_⟩, fun c hc => ?_⟩ (hNo.trf fAll)
      · refine hct.fx2 ?_ fun t j ht => ?_
        · rw [q5, ups_ne (by omega), (f2 5 0 (by unfold TE; omega)).1]
        · rw [(kA t j (by omega) (by omega) (by omega) (by omega)).1, (f2 t j (by unfold TE; omega)).1]
      · obtain ⟨a1, a2, -⟩ := hL j hj
        have y : ∀ t, t = 2 ∨ t = 3 ∨ (300 ≤ t ∧ t ≤ 310) ∨ (401 ≤ t ∧ t ≤ 408) → M5.1 t j = M'.1 t j ∧ M5.2 t j = M'.2 t j := fun t ht => kA t j (by omega) (by omega) (by omega) (by omega)
        exact ⟨a1.keep ⟨⟨by rw [(y 3 (by omega)).1], (y 402 (by omega)).1, (y 404 (by omega)).1, (y 405 (by omega)).1⟩, (y 401 (by omega)).2, (y 403 (by omega)).2⟩, a2.fx fun t ht => (y t (by omega)).1⟩
      · rw [(kA 607 0 (by omega) (by omega) (by omega) (by omega)).1, g607]; exact h607 t ht
      · exact Edc.fx hEc3 fun t ht => kB t 0 (by omega) (by omega)
      · rw [kB 7 0 (by omega) (by omega)]; exact t1
      · exact t2.fx (Nat.le_refl _) fun q _ t t1 t2 => by rw [kB t 0 (by omega) (by omega)]
      · rw [kB 805 0 (by omega) (by omega)]; exact t3
      · rw [(k5 609 0 (by omega)).1]; exact hfc c hc
    | succ s ih =>
      intro k M' hk hf' g5 g607 g608 gRep hL
      have h11' : M'.1 5 0 11 = N := by rw [g5]; exact h11
      have hNo' := hNo.trf hf'
      refine s_502_20 ?_
      rw [h11', phV_in (by omega) (by omega)]
      refine ⟨fun h => by omega, fun _ => ?_⟩
      refine c304 (f := f) (by omega) (by rw [gRep k (Nat.le_refl k) (by omega)]; exact hRep k (by omega)) (fun _ => hNo'.1) (fun j hj => ⟨(hL j (by omega)).1, (hL j (by omega)).2.2.2.2.2 hj.symm⟩) fun M2 f2 p1 p2 p3 p4 p5 => ?_
      refine c201v p1 fun M3 f3 hcls => ⟨by omega, ?_⟩
      have y3 : ∀ t j, ¬ (t = 2 ∨ (300 ≤ t ∧ t ≤ 310)) ∨ j ≠ k → M3.1 t j = M2.1 t j ∧ M3.2 t j = M2.2 t j := fun t j h => f3 t j (by unfold T201; omega)
      have y2 : ∀ t j, ¬ (t = 3 ∨ (402 ≤ t ∧ t ≤ 408)) ∨ (j ≠ k ∧ (t ≠ 408 ∨ j ≠ bef k)) → M2.1 t j = M'.1 t j ∧ M2.2 t j = M'.2 t j := fun t j h => f2 t j (by unfold T304; omega)
      have yy : ∀ t j, j ≠ k → (t ≠ 408 ∨ j ≠ bef k) → M3.1 t j = M'.1 t j ∧ M3.2 t j = M'.2 t j := fun t j h1 h2 => by
        have a := y3 t j (Or.inr h1)
        have b := y2 t j (Or.inr ⟨h1, h2⟩)
        exact ⟨a.1.trans b.1, a.2.trans b.2⟩
      have yt : ∀ t j, ¬ (t = 2 ∨ (300 ≤ t ∧ t ≤ 310)) → ¬ (t = 3 ∨ (402 ≤ t ∧ t ≤ 408)) → M3.1 t j = M'.1 t j ∧ M3.2 t j = M'.2 t j := fun t j h1 h2 => by
        have a := y3 t j (Or.inl h1)
        have b := y2 t j (Or.inl h2)
        exact ⟨a.1.trans b.1, a.2.trans b.2⟩
      have hbef : bef (k + 1) = k := by unfold bef; rw [if_neg (by omega)]; omega
      have hbk : bef k = 12 ∧ k = 0 ∨ 0 < k ∧ bef k = k - 1 := by
        unfold bef
        by_cases q : k = 0
        · rw [if_pos q]; omega
        · rw [if_neg q]; omega
      have := ih (k + 1) M3 (by omega) ?_ ?_ ?_ ?_ (fun j h1 h2 => ?_) fun j hj => ?_
      · rw [hbef, show ((k + 1 : Nat) : Int) = (k : Int) + 1 by omega] at this
        exact this
      · refine hf'.tr ((f2.up fun t j h => ?_).tr (f3.up fun t j h => ?_))
        · unfold T304 at h; unfold TRF; omega
        · unfold T201 at h; unfold TRF; omega
      · funext j; rw [(yt 5 j (by omega) (by omega)).1, g5]
      · funext j; rw [(yt 607 j (by omega) (by omega)).1, g607]
      · funext j; rw [(yt 608 j (by omega) (by omega)).1, g608]
      · rw [(yt 401 j (by omega) (by omega)).2]; exact gRep j (by omega) h2
      · by_cases q : j = k
        · subst q
          have z : ∀ t, t = 3 ∨ (401 ≤ t ∧ t ≤ 408) → M3.1 t j = M2.1 t j ∧ M3.2 t j = M2.2 t j := fun t ht => y3 t j (Or.inl (by omega))
          refine ⟨p1.keep ⟨⟨by rw [(z 3 (by omega)).1], (z 402 (by omega)).1, (z 404 (by omega)).1, (z 405 (by omega)).1⟩, (z 401 (by omega)).2, (z 403 (by omega)).2⟩, hcls, by rw [(z 3 (by omega)).1]; exact p2, fun c hc => ?_, fun h => by omega, fun _ b hb => by rw [(z 408 (by omega)).1]; exact p4 b hb⟩
          obtain ⟨a1, a2, a3⟩ := fcK_s hc
          rw [(z 407 (by omega)).1]
          have := p3 (fcK f j c) a1 a2
          rw [a3] at this
          rw [this]
          rfl
        · obtain ⟨a1, a2, a3, a4, a5, a6⟩ := hL j (by omega)
          have z : ∀ t, t ≠ 408 → M3.1 t j = M'.1 t j ∧ M3.2 t j = M'.2 t j := fun t ht => yy t j q (Or.inl ht)
          refine ⟨a1.keep ⟨⟨by rw [(z 3 (by omega)).1], (z 402 (by omega)).1, (z 404 (by omega)).1, (z 405 (by omega)).1⟩, (z 401 (by omega)).2, (z 403 (by omega)).2⟩, a2.fx fun t ht => (z t (by omega)).1, by rw [(z 3 (by omega)).1]; exact a3, fun c hc => by rw [(z 407 (by omega)).1]; exact a4 c hc, fun hlt b hb => ?_, fun h => by omega⟩
          by_cases q2 : j + 1 = k
          · rw [(y3 408 j (Or.inl (by omega))).1, (p5.2 j q2.symm) b hb, kdn_chn]
          · rw [(yy 408 j q (Or.inr (by omega))).1]
            exact a5 (by omega) b hb
  have := loop N 0 M1 (by omega) f1' rfl rfl rfl (fun _ _ _ => rfl) fun j hj => absurd hj (Nat.not_lt_zero j)
  exact this

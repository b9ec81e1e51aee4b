/-! the reference executes -/
theorem chr_cg {s s' : Nat → Int} {len : Nat} (h : ∀ i, i < len → s i = s' i) : chr s len = chr s' len := by
  funext p
  unfold chr
  split
  · next q => exact h p q
  · rfl
theorem nmP_cg {s s' : Nat → Int} {len : Nat} (h : chr s len = chr s' len) (p : Nat) (lo hi : Int) : nmP s len p lo hi = nmP s' len p lo hi := by
  unfold nmP
  rw [h]
theorem sgP_cg {s s' : Nat → Int} {len : Nat} (h : chr s len = chr s' len) (p : Nat) (c : Int) : sgP s len p c = sgP s' len p c := by
  unfold sgP
  rw [h]
theorem rcP_cg {s s' : Nat → Int} {len : Nat} (h : chr s len = chr s' len) (p : Nat) : rcP s len p = rcP s' len p := by
  have e1 : nmP s len = nmP s' len := by funext p lo hi; exact nmP_cg h p lo hi
  have e2 : sgP s len = sgP s' len := by funext p c; exact sgP_cg h p c
  unfold rcP
  rw [e1, e2]
theorem cmP_cg {s s' : Nat → Int} {len : Nat} (h : chr s len = chr s' len) (p : Nat) : cmP s len p = cmP s' len p := by
  unfold cmP
  rw [h, sgP_cg h, rcP_cg h]
theorem rdP_cg {s s' : Nat → Int} {len : Nat} (h : chr s len = chr s' len) : ∀ F p, rdP s len F p = rdP s' len F p
  | 0, _ => rfl
  | F + 1, p => by
    have e : rdP s len F = rdP s' len F := by funext q; exact rdP_cg h F q
    unfold rdP
    rw [cmP_cg h, e]
theorem rdP_all {s : Nat → Int} {len : Nat} : ∀ {F p : Nat} {l : List (Int × Int × Int × Int × Int)}, rdP s len F p = .inr l → ∀ c, c ∈ l → CmOk c
  | 0, p, l, h => by cases h
  | F + 1, p, l, h => by
    intro c hc
    cases e : cmP s len p with
    | inl a => rw [rdP_e e] at h; cases h
    | inr a =>
      obtain ⟨q, d⟩ := a
      have ok := (cmP_ok e).2.2
      by_cases hq : q < len
      · cases g : rdP s len F q with
        | inl a => rw [rdP_ce e hq g] at h; cases h
        | inr l' =>
          rw [rdP_cl e hq g] at h
          cases h
          rcases List.mem_cons.mp hc with hc | hc
          · rw [hc]; exact ok
          · exact rdP_all g c hc
      · rw [rdP_l e hq] at h
        cases h
        rw [List.mem_singleton.mp hc]
        exact ok
def FN (M M' : Mm) : Prop := Fx (fun t j => (t = 10 ∨ t = 1105 ∨ t = 1115) ∧ j = 0) M M' ∧ ∀ q, ¬ S34 q → M'.1 10 0 q = M.1 10 0 q
theorem FN.rf {M : Mm} : FN M M := ⟨Fx.rf, fun _ _ => rfl⟩
theorem FN.tr {M M1 M2 : Mm} (h : FN M M1) (g : FN M1 M2) : FN M M2 := ⟨h.1.tr g.1, fun q hq => (g.2 q hq).trans (h.2 q hq)⟩
theorem R10.fn {M M' : Mm} (h : R10 S34 M M') : FN M M' := ⟨h.1.up fun t j g => ⟨Or.inl g.1, g.2⟩, h.2⟩
theorem FN.rg {M M' : Mm} (h : Fx (fun t j => (t = 1105 ∨ t = 1115) ∧ j = 0) M M') : FN M M' := ⟨h.up fun t j g => ⟨Or.inr g.1, g.2⟩, fun q _ => by rw [(h 10 0 (by omega)).1]⟩
theorem St10.rg {M M' : Mm} {s : Nat → Int} {len : Nat} {r : Nat ⊕ Nat} (h : St10 M s len r) (f : Fx (fun t j => (t = 1105 ∨ t = 1115) ∧ j = 0) M M') : St10 M' s len r := by
  unfold St10
  rw [(f 1110 0 (by omega)).1, (f 10 0 (by omega)).1]
  exact h
/-- a rectangle's command behind its sign -/
theorem c1021r {s : Nat → Int} {len p : Nat} {B : Int} {M : Mm} {Q : Mm → Prop} (h60 : len ≤ 60) (hT : St10 M s len (.inr p)) (hB : 0 ≤ B ∧ B ≤ 2)
    (hno : ∀ e, rcP s len p = .inl e → ∀ M', FN M M' → M'.1 10 0 14 = (e : Int) → Q M')
    (hok : ∀ t, rcP s len p = .inr t → ∀ M', FN M M' → St10 M' s len (.inr t.1) → (∀ y, y < 12 → M'.1 1105 0 y = cmR (B, t.2) (M.1 1105 0) y) → Q M') : E_1019 0 11 M (fun (r : Int) (M1_7 : Mm) => (E_1018 44 M1_7 (fun M1_8 : Mm => (E_1019 0 11 M1_8 (fun (r_1 : Int) (M1_9 : Mm) => (E_1018 44 M1_9 (fun M1_10 : Mm => ((-2147483648 ≤ 12 - r ∧ 12 - r ≤ 2147483647)) ∧ (E_1019 1 (12 - r) M1_10 (fun (r_2 : Int) (M1_11 : Mm) => (E_1018 44 M1_11 (fun M1_12 : Mm => ((-2147483648 ≤ 12 - r_1 ∧ 12 - r_1 ≤ 2147483647)) ∧ (E_1019 1 (12 - r_1) M1_12 (fun (r_3 : Int) (M1_13 : Mm) => (E_1018 59 M1_13 (fun M1_14 : Mm => ((0 ≤ M1_14.1 10 0 14 → (Q M1_14)) ∧ (M1_14.1 10 0 14 < 0 → (∀ b_2 : Int, b_2 = B → (E_1009 b_2 r r_1 r_2 r_3 M1_14 (fun M1_15 : Mm => (Q M1_15))))))))))))))))))))) := by
  refine c1019 (by omega) h60 hT fun M1 v1 f1 g1 w1 r1 => c1018 (by decide) h60 g1 fun M2 f2 g2 => c1019 (by omega) h60 g2 fun M3 v2 f3 g3 w3 r3 => c1018 (by decide) h60 g3 fun M4 f4 g4 => ⟨by omega, c1019 (by omega) h60 g4 fun M5 v3 f5 g5 w5 r5 => c1018 (by decide) h60 g5 fun M6 f6 g6 => ⟨by omega, c1019 (by omega) h60 g6 fun M7 v4 f7 g7 w7 r7 => c1018 (by decide) h60 g7 fun M8 f8 g8 => ?_⟩⟩
  have hrc := rc_chain (s := s) (len := len) (p := p) (R1 := nmR s len (.inr p) 0 11) rfl w1 rfl w3 rfl w5 rfl w7
  have fA : R10 S34 M M8 := ((((((f1.tr f2).tr f3).tr f4).tr f5).tr f6).tr f7).tr f8
  have x5 : M8.1 1105 0 = M.1 1105 0 := (fA.1 1105 0 (by omega)).1
  obtain ⟨u1, u2, u3⟩ := id g8
  cases e : rcP s len p with
  | inl a =>
    rw [hrc.1 a e] at u3
    have u3 : M8.1 10 0 14 = (a : Int) := u3
    exact ⟨fun _ => hno a e M8 fA.fn u3, fun h => by omega⟩
  | inr t =>
    obtain ⟨z0, z1, z2, z3, z4⟩ := hrc.2 t e
    rw [z0] at g8 u3
    obtain ⟨y1, y2, y3⟩ : M8.1 10 0 14 = -1 ∧ M8.1 10 0 13 = (t.1 : Int) ∧ t.1 ≤ len := u3
    have ok := rcP_ok e
    refine ⟨fun h => by omega, fun _ b eb => ?_⟩
    rw [eb, z1, z2, z3, z4]
    refine c1009 (by omega) (by omega) (by omega) (by omega) (by omega) (by omega) fun M9 f9 g9 => ?_
    have f9' : Fx (fun t j => (t = 1105 ∨ t = 1115) ∧ j = 0) M8 M9 := f9.up fun t j g => ⟨Or.inl g.1, g.2⟩
    refine hok t e M9 (fA.fn.tr (FN.rg f9')) (g8.rg f9') fun y hy => ?_
    rw [g9 y hy, x5]
    show _ = (if B = 3 then _ else if B = 4 then _ else _ : Nat → Int) y
    rw [if_neg (by omega), if_neg (by omega)]
theorem c1021 {s : Nat → Int} {len p : Nat} {M : Mm} {Q : Mm → Prop} (h60 : len ≤ 60) (hT : St10 M s len (.inr p)) (hR : R12 (M.1 1105 0))
    (hno : ∀ e, cmP s len p = .inl e → ∀ M', FN M M' → M'.1 10 0 14 = (e : Int) → Q M')
    (hok : ∀ q c, cmP s len p = .inr (q, c) → ∀ M', FN M M' → St10 M' s len (.inr q) → (∀ y, y < 12 → M'.1 1105 0 y = cmR c (M.1 1105 0) y) → Q M') : E_1021 M Q := by
  obtain ⟨t1, t2, t3, t4, t5⟩ := id hT
  have hl := lt_chr (s := s) (len := len) (p := p)
  refine s_1021_0 ⟨by omega, fun x1 ex => ?_⟩
  rw [t4, t2, t1] at ex
  rw [← ex] at hl
  have nxt : ∀ M1 : Mm, M1 = setI M 10 0 13 (M.1 10 0 13 + 1) → p < len → St10 M1 s len (.inr (p + 1)) ∧ FN M M1 ∧ M1.1 1105 0 = M.1 1105 0 := fun M1 e1 hp => by
    have f1 : R10 S34 M M1 := by rw [e1]; exact R10.set (Or.inl rfl)
    exact ⟨⟨by rw [(f1.1 1110 0 (by omega)).1]; exact t1, by rw [f1.2 11 (by unfold S34; omega)]; exact t2, by rw [e1, setI_at, ups_ne (by omega)]; exact t3, by rw [e1, setI_at, ups_at, t4]; omega, hp⟩, f1.fn, (f1.1 1105 0 (by omega)).1⟩
  -- turn, mirror
  have turn : ∀ (k : Int) (M1 : Mm), (k = 3 ∨ k = 4) → M1 = setI M 10 0 13 (M.1 10 0 13 + 1) → p < len → (∀ e, sgP s len (p + 1) 59 = .inl e → cmP s len p = .inl e) → (∀ q, sgP s len (p + 1) 59 = .inr q → cmP s len p = .inr (q, k, 0, 0, 0, 0)) → ∀ b0 : Int, (b0 = 0 ↔ k = 3) → E_1018 59 M1 (fun M1_1 : Mm => ((0 ≤ M1_1.1 10 0 14 → (Q M1_1)) ∧ (M1_1.1 10 0 14 < 0 → (∀ b : Int, b = b0 → (E_1020 b M1_1 (fun M1_2 : Mm => (Q M1_2))))))) := by
    intro k M1 hk e1 hp c1 c2 b0 hb0
    obtain ⟨n1, n2, n3⟩ := nxt M1 e1 hp
    refine c1018 (by decide) h60 n1 fun M2 f2 g2 => ?_
    have eR : sgR s len (.inr (p + 1)) 59 = sgP s len (p + 1) 59 := rfl
    rw [eR] at g2
    obtain ⟨u1, u2, u3⟩ := id g2
    cases e : sgP s len (p + 1) 59 with
    | inl a =>
      rw [e] at u3
      have u3 : M2.1 10 0 14 = (a : Int) := u3
      exact ⟨fun _ => hno a (c1 a e) M2 (n2.tr f2.fn) u3, fun h => by omega⟩
    | inr q =>
      rw [e] at u3 g2
      obtain ⟨y1, y2, y3⟩ : M2.1 10 0 14 = -1 ∧ M2.1 10 0 13 = (q : Int) ∧ q ≤ len := u3
      have x5 : M2.1 1105 0 = M.1 1105 0 := by rw [(f2.1 1105 0 (by omega)).1, n3]
      refine ⟨fun h => by omega, fun _ b eb => ?_⟩
      rw [eb]
      refine c1020 (by rw [x5]; exact hR) fun M3 f3 g3 => hok q _ (c2 q e) M3 ((n2.tr f2.fn).tr (FN.rg f3)) (g2.rg f3) fun y hy => ?_
      rw [g3 y hy, x5]
      show _ = (if k = 3 then _ else if k = 4 then _ else _ : Nat → Int) y
      by_cases q3 : k = 3
      · rw [if_pos (hb0.mpr q3), if_pos q3]
      · rw [if_neg (fun g => q3 (hb0.mp g)), if_neg q3, if_pos (by omega)]
  -- a rectangle
  have rect : ∀ (M1 : Mm), (x1 = 43 ∨ x1 = 45 ∨ x1 = 94) → M1 = setI M 10 0 13 (M.1 10 0 13 + 1) → E_1019 0 11 M1 (fun (r : Int) (M1_7 : Mm) => (E_1018 44 M1_7 (fun M1_8 : Mm => (E_1019 0 11 M1_8 (fun (r_1 : Int) (M1_9 : Mm) => (E_1018 44 M1_9 (fun M1_10 : Mm => ((-2147483648 ≤ 12 - r ∧ 12 - r ≤ 2147483647)) ∧ (E_1019 1 (12 - r) M1_10 (fun (r_2 : Int) (M1_11 : Mm) => (E_1018 44 M1_11 (fun M1_12 : Mm => ((-2147483648 ≤ 12 - r_1 ∧ 12 - r_1 ≤ 2147483647)) ∧ (E_1019 1 (12 - r_1) M1_12 (fun (r_3 : Int) (M1_13 : Mm) => (E_1018 59 M1_13 (fun M1_14 : Mm => ((0 ≤ M1_14.1 10 0 14 → (Q M1_14)) ∧ (M1_14.1 10 0 14 < 0 → (∀ b_2 : Int, b_2 = (if x1 ≠ 43 then (if x1 ≠ 45 then 2 else 1) else 0) → (E_1009 b_2 r r_1 r_2 r_3 M1_14 (fun M1_15 : Mm => (Q M1_15))))))))))))))))))))) := by
    intro M1 hx e1
    obtain ⟨n1, n2, n3⟩ := nxt M1 e1 (by omega)
    have hc : chr s len p = x1 := by omega
    refine c1021r h60 n1 (by split <;> (try split) <;> omega) (fun e he M2 f2 g2 => hno e ?_ M2 (n2.tr f2) g2) (fun t ht M2 f2 g2 g3 => hok t.1 _ ?_ M2 (n2.tr f2) g2 (by rw [← n3]; exact g3))
    · unfold cmP
      rw [hc, if_neg (by omega), if_neg (by omega), if_pos hx, he]
    · unfold cmP
      rw [hc, if_neg (by omega), if_neg (by omega), if_pos hx, ht]
  refine ⟨fun h => ⟨by omega, fun M1 e1 => ?_⟩, fun h1 => ⟨fun h2 => ⟨fun h => ⟨by omega, fun M1 e1 => rect M1 (by omega) e1⟩, fun h3 => ⟨fun h => ⟨by omega, fun M1 e1 => rect M1 (by omega) e1⟩, fun h4 => ⟨fun h => ⟨by omega, fun M1 e1 => rect M1 (by omega) e1⟩, fun h5 M1 e1 => ?_⟩⟩⟩, fun h => ⟨by omega, fun M1 e1 => ?_⟩⟩⟩
  · have hc : chr s len p = 114 := by omega
    refine turn 3 M1 (by omega) e1 (by omega) (fun e he => ?_) (fun q hq => ?_) _ ⟨fun _ => rfl, fun _ => by rw [if_pos (by omega)]⟩
    · unfold cmP
      rw [if_pos hc, he]
    · unfold cmP
      rw [if_pos hc, hq]
  · refine hno p ?_ M1 (R10.fn (by rw [e1]; exact R10.set (Or.inr rfl))) (by rw [e1, setI_at, ups_at]; exact t4)
    unfold cmP
    rw [if_neg (by omega), if_neg (by omega), if_neg (by omega)]
  · have hc : chr s len p = 109 := by omega
    refine turn 4 M1 (by omega) e1 (by omega) (fun e he => ?_) (fun q hq => ?_) _ ⟨fun g => ?_, fun g => by omega⟩
    · unfold cmP
      rw [if_neg (by omega), if_pos hc, he]
    · unfold cmP
      rw [if_neg (by omega), if_pos hc, hq]
    · rw [if_neg (by omega)] at g
      omega
/-- the text executed: an error, or the commands; then a change -/
theorem c1022 {s : Nat → Int} {len : Nat} {f : Nat → Int} {M : Mm} {Q : Int → Mm → Prop} (h60 : len ≤ 60) (h7 : M.1 1110 0 = s) (h11 : M.1 10 0 11 = len) (hf : M.1 1101 0 = f) (hR : R12 f)
    (hno : ∀ e, rdP s len 30 0 = .inl e → ∀ M', Fx (fun t j => (t = 10 ∨ t = 1105 ∨ t = 1115) ∧ j = 0) M M' → M'.1 10 0 0 = 1 → M'.1 10 0 11 = 0 → M'.1 10 0 12 = (e : Int) → (∀ q, ¬ S34 q → q ≠ 0 → q ≠ 11 → q ≠ 12 → M'.1 10 0 q = M.1 10 0 q) → Q 0 M')
    (hok : ∀ l, rdP s len 30 0 = .inr l → ∀ M', Fx (fun t j => (t = 10 ∨ t = 1105 ∨ t = 1115) ∧ j = 0) M M' → M'.1 10 0 0 = 0 → M'.1 10 0 11 = 0 → M'.1 10 0 12 = -1 → (∀ q, ¬ S34 q → q ≠ 0 → q ≠ 11 → q ≠ 12 → M'.1 10 0 q = M.1 10 0 q) → (∀ y, y < 12 → M'.1 1105 0 y = runL l f y) → E_1008 M' (fun M1 => Q l.length M1)) : E_1022 M Q := by
  refine s_1022_0 fun M1 e1 M2 e2 M3 e3 => ?_
  have x10 : M3.1 10 0 = ups (ups (ups (M.1 10 0) 0 0) 13 0) 14 (-1) := by rw [e3, setI_at, e2, setI_at, e1, setI_at]
  have o3 : ∀ t, t ≠ 10 → M3.1 t 0 = M.1 t 0 := fun t ht => by rw [e3, setI_ne (by omega), e2, setI_ne (by omega), e1, setI_ne (by omega)]
  have f3 : Fx (fun t j => (t = 10 ∨ t = 1105 ∨ t = 1115) ∧ j = 0) M M3 := by
    rw [e3, e2, e1]
    exact ((Fx.setI ⟨Or.inl rfl, rfl⟩).tr (Fx.setI ⟨Or.inl rfl, rfl⟩)).tr (Fx.setI ⟨Or.inl rfl, rfl⟩)
  refine c1006_1101_1105 (x := 0) (z := 0) (by omega) (by omega) fun M4 f4 g4 _ => ?_
  have g4' : ∀ y, y < 12 → M4.1 1105 0 y = f y := fun y hy => by
    have := g4 y hy
    rw [Nat.zero_add] at this
    rw [this, o3 1101 (by omega), hf]
  have x4 : M4.1 10 0 = M3.1 10 0 := (f4 10 0 (by omega)).1
  have f4' : Fx (fun t j => (t = 10 ∨ t = 1105 ∨ t = 1115) ∧ j = 0) M M4 := f3.tr (f4.up fun t j g => by omega)
  have hT : St10 M4 s len (.inr 0) := ⟨by rw [(f4 1110 0 (by omega)).1, o3 1110 (by omega)]; exact h7, by rw [x4, x10, ups_ne (by omega), ups_ne (by omega), ups_ne (by omega)]; exact h11, by rw [x4, x10, ups_at], by rw [x4, x10, ups_ne (by omega), ups_at]; rfl, by omega⟩
  have key : ∀ (F i p : Nat) (M' : Mm) (g : Nat → Int), F + i = 30 → 2 * i ≤ p → FN M4 M' → St10 M' s len (.inr p) → (∀ y, y < 12 → M'.1 1105 0 y = g y) → R12 g → (i = 0 ∨ p < len) → (∀ e, rdP s len F p = .inl e → rdP s len 30 0 = .inl e) → (∀ l, rdP s len F p = .inr l → ∃ l', rdP s len 30 0 = .inr l' ∧ l'.length = i + l.length ∧ ∀ y, y < 12 → runL l g y = runL l' f y) → L_1022_30 (i : Int) M' Q := by
    intro F
    induction F with
    | zero => intro i p M' g hF hp hf' hT' hg hRg hi; omega
    | succ F ih =>
      intro i p M' g hF hp hf' hT' hg hRg hi hE hL
      obtain ⟨t1, t2, t3, t4, t5⟩ := id hT'
      -- the end, without an error
      have good : ∀ (M5 : Mm) (l : List (Int × Int × Int × Int × Int)) (n : Int), rdP s len 30 0 = .inr l → n = l.length → FN M4 M5 → M5.1 10 0 14 = -1 → (∀ y, y < 12 → M5.1 1105 0 y = runL l f y) → ∀ M6, M6 = setI M5 10 0 11 0 → ∀ M7, M7 = setI M6 10 0 12 (M6.1 10 0 14) → ((M7.1 10 0 14 < 0 → (E_1008 M7 (fun M1_8 : Mm => (Q n M1_8)))) ∧ (0 ≤ M7.1 10 0 14 → (∀ M1_9 : Mm, M1_9 = setI M7 10 0 0 1 → (Q 0 M1_9)))) := by
        intro M5 l n hl hn f5 g5 r5 M6 e6 M7 e7
        have y7 : M7.1 10 0 = ups (ups (M5.1 10 0) 11 0) 12 (-1) := by rw [e7, setI_at, e6, setI_at, ups_ne (by omega), g5]
        have y14 : M7.1 10 0 14 = -1 := by rw [y7, ups_ne (by omega), ups_ne (by omega)]; exact g5
        refine ⟨fun _ => ?_, fun h => by omega⟩
        rw [hn]
        refine hok l hl M7 ((f4'.tr f5.1).tr (by rw [e7, e6]; exact (Fx.setI ⟨Or.inl rfl, rfl⟩).tr (Fx.setI ⟨Or.inl rfl, rfl⟩))) ?_ ?_ ?_ (fun q h1 h2 h3 h4 => ?_) fun y hy => ?_
        · rw [y7, ups_ne (by omega), ups_ne (by omega), f5.2 0 (by unfold S34; omega), x4, x10, ups_ne (by omega), ups_ne (by omega), ups_at]
        · rw [y7, ups_ne (by omega), ups_at]
        · rw [y7, ups_at]
        · have h1' : q ≠ 13 ∧ q ≠ 14 := by unfold S34 at h1; omega
          rw [y7, ups_ne (by omega), ups_ne (by omega), f5.2 q h1, x4, x10, ups_ne (by omega), ups_ne (by omega), ups_ne (by omega)]
        · rw [e7, setI_ne (by omega), e6, setI_ne (by omega)]; exact r5 y hy
      -- the end with an error
      have bad : ∀ (M5 : Mm) (e : Nat) (n : Int), rdP s len 30 0 = .inl e → FN M4 M5 → M5.1 10 0 14 = (e : Int) → ∀ M6, M6 = setI M5 10 0 11 0 → ∀ M7, M7 = setI M6 10 0 12 (M6.1 10 0 14) → ((M7.1 10 0 14 < 0 → (E_1008 M7 (fun M1_8 : Mm => (Q n M1_8)))) ∧ (0 ≤ M7.1 10 0 14 → (∀ M1_9 : Mm, M1_9 = setI M7 10 0 0 1 → (Q 0 M1_9)))) := by
        intro M5 e n hl f5 g5 M6 e6 M7 e7
        have y7 : M7.1 10 0 = ups (ups (M5.1 10 0) 11 0) 12 (e : Int) := by rw [e7, setI_at, e6, setI_at, ups_ne (by omega), g5]
        have y14 : M7.1 10 0 14 = (e : Int) := by rw [y7, ups_ne (by omega), ups_ne (by omega)]; exact g5
        refine ⟨fun h => by omega, fun _ M8 e8 => ?_⟩
        have y8 : M8.1 10 0 = ups (M7.1 10 0) 0 1 := by rw [e8, setI_at]
        refine hno e hl M8 ((f4'.tr f5.1).tr (by rw [e8, e7, e6]; exact ((Fx.setI ⟨Or.inl rfl, rfl⟩).tr (Fx.setI ⟨Or.inl rfl, rfl⟩)).tr (Fx.setI ⟨Or.inl rfl, rfl⟩))) ?_ ?_ ?_ (fun q h1 h2 h3 h4 => ?_)
        · rw [y8, ups_at]
        · rw [y8, ups_ne (by omega), y7, ups_ne (by omega), ups_at]
        · rw [y8, ups_ne (by omega), y7, ups_at]
        · have h1' : q ≠ 13 ∧ q ≠ 14 := by unfold S34 at h1; omega
          rw [y8, ups_ne (by omega), y7, ups_ne (by omega), ups_ne (by omega), f5.2 q h1, x4, x10, ups_ne (by omega), ups_ne (by omega), ups_ne (by omega)]
      have cmd : E_1021 M' (fun M1 : Mm => ((-2147483648 ≤ (i : Int) + 1 ∧ (i : Int) + 1 ≤ 2147483647)) ∧ (L_1022_30 ((i : Int) + 1) M1 Q)) := by
        refine c1021 h60 hT' ((hRg).cg hg) (fun e he M5 f5 g5 => ⟨by omega, ?_⟩) (fun q c hc M5 f5 g5 r5 => ⟨by omega, ?_⟩)
        · have := bad M5 e ((i : Int) + 1) (hE e (rdP_e he)) (hf'.tr f5) g5
          exact s_1022_30 ⟨fun _ => this, fun h => by omega⟩
        · obtain ⟨o1, o2, o3⟩ := cmP_ok hc
          obtain ⟨b1, b2, b3, b4, b5⟩ := id g5
          have r5' : ∀ y, y < 12 → M5.1 1105 0 y = cmR c g y := fun y hy => by rw [r5 y hy]; exact cmR_cg (c := c) hg y hy
          by_cases hq : q < len
          · have := ih (i + 1) q M5 (cmR c g) (by omega) (by omega) (hf'.tr f5) g5 r5' (cmR_12 hRg o3) (Or.inr hq) (fun e he => hE e (rdP_ce hc hq he)) (fun l hl => by
              obtain ⟨l', k1, k2, k3⟩ := hL (c :: l) (rdP_cl hc hq hl)
              rw [List.length_cons] at k2
              exact ⟨l', k1, by omega, k3⟩)
            rwa [show ((i + 1 : Nat) : Int) = (i : Int) + 1 by omega] at this
          · obtain ⟨l', k1, k2, k3⟩ := hL [c] (rdP_l hc hq)
            have k2' : l'.length = i + 1 := k2
            have := good M5 l' ((i : Int) + 1) k1 (by omega) (hf'.tr f5) b3 fun y hy => by rw [r5' y hy]; exact k3 y hy
            exact s_1022_30 ⟨fun h => by omega, fun _ => ⟨fun h => by omega, fun _ => ⟨fun _ => this, fun h => by omega⟩⟩⟩
      refine s_1022_30 ⟨fun h => by omega, fun _ => ⟨fun _ => cmd, fun h0 => ⟨fun h => by omega, fun _ => cmd⟩⟩⟩
  exact key 30 0 0 M4 f rfl (by omega) FN.rf hT g4' hR (Or.inl rfl) (fun e h => h) fun l h => ⟨l, h, (Nat.zero_add _).symm, fun _ _ => rfl⟩

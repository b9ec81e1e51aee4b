/-! the class reads all commands and runs them -/
def FT (M M' : Mm) : Prop := Fx (fun t j => (t = 6 ∨ t = 701) ∧ j = 0) M M'
theorem F6.ft {M M' : Mm} (h : F6 M M') : FT M M' := h.1.up fun t j g => ⟨Or.inl g.1, g.2⟩
theorem FT.eqA {M M' : Mm} {g : Nat → Int} (e : M' = setA M 701 0 g) : FT M M' := by rw [e]; exact Fx.setA ⟨Or.inr rfl, rfl⟩
theorem FT.eqI {M M' : Mm} {k : Nat} {v : Int} (e : M' = setI M 6 0 k v) : FT M M' := by rw [e]; exact Fx.setI ⟨Or.inl rfl, rfl⟩
theorem c607 {s : Nat → Int} {len p n : Nat} {M : Mm} {Q : Mm → Prop} (h60 : len ≤ 60) (hT : St6 M s len (.inr p)) (h5 : M.1 6 0 5 = n) (hn : n < 30) (hQ : ∀ M' v1 v2 v3 v4 R, FT M M' → (∀ q, q ≠ 2 → q ≠ 4 → M'.1 6 0 q = M.1 6 0 q) → St6 M' s len R → Rc4 s len p v1 v2 v3 v4 R → M'.1 701 0 = putN 150 (putN 150 (putN 150 (putN 150 (M.1 701 0) ((5 * n + 1 : Nat) : Int) v1) ((5 * n + 2 : Nat) : Int) v2) ((5 * n + 3 : Nat) : Int) v3) ((5 * n + 4 : Nat) : Int) v4 → Q M') : E_607 M Q := by
  refine s_607_0 ?_
  rw [h5]
  refine ⟨⟨by omega, by omega⟩, fun x1 ex1 => ?_⟩
  have e1 : x1 = ((5 * n + 1 : Nat) : Int) := by omega
  have e2 : x1 + 1 = ((5 * n + 2 : Nat) : Int) := by omega
  have e3 : x1 + 2 = ((5 * n + 3 : Nat) : Int) := by omega
  have e4 : x1 + 3 = ((5 * n + 4 : Nat) : Int) := by omega
  refine c608 h60 hT fun M1 v1 f1 g1 w1 r1 => c609 (by decide) h60 g1 fun M2 f2 g2 => c608 h60 g2 fun M3 v2 f3 g3 w3 r3 => c609 (by decide) h60 g3 fun M4 f4 g4 M5 m5 => ⟨by omega, fun M6 m6 => ⟨⟨by omega, by omega⟩, ?_⟩⟩
  have g6 : St6 M6 s len _ := g4.fx ⟨by rw [m6, setA_ne (by omega), m5, setA_ne (by omega)], by rw [m6, setA_ne (by omega), m5, setA_ne (by omega)]⟩
  refine c608 h60 g6 fun M7 v3 f7 g7 w7 r7 M8 m8 => ?_
  have g8 : St6 M8 s len _ := g7.fx ⟨by rw [m8, setA_ne (by omega)], by rw [m8, setA_ne (by omega)]⟩
  refine c609 (by decide) h60 g8 fun M9 f9 g9 => ⟨⟨by omega, by omega⟩, c608 h60 g9 fun M10 v4 f10 g10 w10 r10 M11 m11 => ?_⟩
  have g11 : St6 M11 s len _ := g10.fx ⟨by rw [m11, setA_ne (by omega)], by rw [m11, setA_ne (by omega)]⟩
  have k4 : M4.1 701 0 = M.1 701 0 := by rw [(f4.1 701 0 (by omega)).1, (f3.1 701 0 (by omega)).1, (f2.1 701 0 (by omega)).1, (f1.1 701 0 (by omega)).1]
  have k6 : M6.1 701 0 = putN 150 (putN 150 (M.1 701 0) x1 v1) (x1 + 1) v2 := by rw [m6, setA_at, m5, setA_at, k4]
  have k8 : M8.1 701 0 = putN 150 (putN 150 (putN 150 (M.1 701 0) x1 v1) (x1 + 1) v2) (x1 + 2) v3 := by rw [m8, setA_at, (f7.1 701 0 (by omega)).1, k6]
  have k11 : M11.1 701 0 = putN 150 (putN 150 (putN 150 (putN 150 (M.1 701 0) x1 v1) (x1 + 1) v2) (x1 + 2) v3) (x1 + 3) v4 := by rw [m11, setA_at, (f10.1 701 0 (by omega)).1, (f9.1 701 0 (by omega)).1, k8]
  have x6 : M6.1 6 0 = M4.1 6 0 := by rw [m6, setA_ne (by omega), m5, setA_ne (by omega)]
  have x8 : M8.1 6 0 = M7.1 6 0 := by rw [m8, setA_ne (by omega)]
  have x11 : M11.1 6 0 = M10.1 6 0 := by rw [m11, setA_ne (by omega)]
  refine hQ M11 v1 v2 v3 v4 _ ?_ (fun q q2 q4 => ?_) g11 (rc_chain rfl w1 rfl w3 rfl w7 rfl w10) (by rw [k11, e2, e3, e4, e1])
  · have a4 : FT M M4 := ((f1.ft.tr f2.ft).tr f3.ft).tr f4.ft
    have a6 : FT M M6 := (a4.tr (FT.eqA m5)).tr (FT.eqA m6)
    have a8 : FT M M8 := (a6.tr f7.ft).tr (FT.eqA m8)
    exact ((a8.tr f9.ft).tr f10.ft).tr (FT.eqA m11)
  · rw [x11, f10.2 q q2 q4, f9.2 q q2 q4, x8, f7.2 q q2 q4, x6, f4.2 q q2 q4, f3.2 q q2 q4, f2.2 q q2 q4, f1.2 q q2 q4]
/-- command i as the class keeps it -/
def RwC (g : Nat → Int) (i : Nat) (c : Int × Int × Int × Int × Int) : Prop := g (5 * i) = c.1 ∧ (c.1 ≤ 2 → g (5 * i + 1) = c.2.1 ∧ g (5 * i + 2) = c.2.2.1 ∧ g (5 * i + 3) = c.2.2.2.1 ∧ g (5 * i + 4) = c.2.2.2.2)
theorem RwC.fx {g g' : Nat → Int} {i : Nat} {c : Int × Int × Int × Int × Int} (h : RwC g i c) (e : ∀ q, q < 5 * i + 5 → g' q = g q) : RwC g' i c := by
  unfold RwC
  rw [e _ (by omega), e _ (by omega), e _ (by omega), e _ (by omega), e _ (by omega)]
  exact h
theorem c605 {s : Nat → Int} {len p n : Nat} {M : Mm} {Q : Mm → Prop} (h60 : len ≤ 60) (hT : St6 M s len (.inr p)) (h5 : M.1 6 0 5 = n) (hn : n < 30)
    (hno : ∀ e, cmP s len p = .inl e → ∀ M', FT M M' → M'.1 700 0 = s → M'.1 6 0 3 = len → M'.1 6 0 4 = (e : Int) → Q M')
    (hok : ∀ q c, cmP s len p = .inr (q, c) → ∀ M', FT M M' → St6 M' s len (.inr q) → M'.1 6 0 5 = (n + 1 : Nat) → RwC (M'.1 701 0) n c → (∀ j, j < 5 * n → M'.1 701 0 j = M.1 701 0 j) → Q M') : E_605 M Q := by
  obtain ⟨t1, t2, t3, t4, t5⟩ := id hT
  refine s_605_0 ?_
  rw [t4, t2, t1, sg_chr h60]
  -- the first sign is read
  have nxt : ∀ M1 : Mm, M1 = setI M 6 0 2 (M.1 6 0 2 + 1) → chr s len p ≠ 0 → St6 M1 s len (.inr (p + 1)) ∧ M1.1 6 0 5 = n ∧ FT M M1 ∧ M1.1 701 0 = M.1 701 0 := fun M1 e1 hne => by
    have hl := chr_lt hne
    have f1 : F6 M M1 := by rw [e1]; exact F6.set (Or.inl rfl)
    exact ⟨⟨by rw [(f1.1 700 0 (by omega)).1]; exact t1, by rw [f1.2 3 (by omega) (by omega)]; exact t2, by rw [e1, setI_at, ups_ne (by omega)]; exact t3, by rw [e1, setI_at, ups_at, t4]; omega, hl⟩, by rw [f1.2 5 (by omega) (by omega)]; exact h5, f1.ft, (f1.1 701 0 (by omega)).1⟩
  -- a turn or a mirror
  have turn : ∀ k : Int, 2 < k ∧ k ≤ 4 → chr s len p ≠ 0 → (∀ e, sgP s len (p + 1) 59 = .inl e → cmP s len p = .inl e) → (∀ q, sgP s len (p + 1) 59 = .inr q → cmP s len p = .inr (q, k, 0, 0, 0, 0)) → ((0 ≤ k → (((-2147483648 ≤ (M.1 6 0 2) + 1 ∧ (M.1 6 0 2) + 1 ≤ 2147483647)) ∧ (∀ M1_2 : Mm, M1_2 = setI M 6 0 2 ((M.1 6 0 2) + 1) → ((2 < k → (E_609 59 M1_2 (fun M1_3 : Mm => ((-2147483648 ≤ (M1_3.1 6 0 5) * 5 ∧ (M1_3.1 6 0 5) * 5 ≤ 2147483647)) ∧ (∀ M1_4 : Mm, M1_4 = setA M1_3 701 0 (putN 150 (M1_3.1 701 0) ((M1_3.1 6 0 5) * 5) k) → (((-2147483648 ≤ (M1_4.1 6 0 5) + 1 ∧ (M1_4.1 6 0 5) + 1 ≤ 2147483647)) ∧ (∀ M1_5 : Mm, M1_5 = setI M1_4 6 0 5 ((M1_4.1 6 0 5) + 1) → (Q M1_5))))))) ∧ (k ≤ 2 → (E_607 M1_2 (fun M1_6 : Mm => (E_609 59 M1_6 (fun M1_7 : Mm => ((-2147483648 ≤ (M1_7.1 6 0 5) * 5 ∧ (M1_7.1 6 0 5) * 5 ≤ 2147483647)) ∧ (∀ M1_8 : Mm, M1_8 = setA M1_7 701 0 (putN 150 (M1_7.1 701 0) ((M1_7.1 6 0 5) * 5) k) → (((-2147483648 ≤ (M1_8.1 6 0 5) + 1 ∧ (M1_8.1 6 0 5) + 1 ≤ 2147483647)) ∧ (∀ M1_9 : Mm, M1_9 = setI M1_8 6 0 5 ((M1_8.1 6 0 5) + 1) → (Q M1_9))))))))))))) ∧ (k < 0 → (∀ M1_1 : Mm, M1_1 = setI M 6 0 4 (M.1 6 0 2) → (Q M1_1)))) := by
    intro k hk hne c1 c2
    refine ⟨fun _ => ⟨by rw [t4]; omega, fun M1 e1 => ⟨fun _ => ?_, fun h => by omega⟩⟩, fun h => by omega⟩
    obtain ⟨n1, n2, n3, n4⟩ := nxt M1 e1 hne
    refine c609 (by decide) h60 n1 fun M2 f2 g2 => ?_
    have x5 : M2.1 6 0 5 = n := by rw [f2.2 5 (by omega) (by omega)]; exact n2
    rw [x5]
    refine ⟨by omega, fun M3 e3 => ?_⟩
    have x5' : M3.1 6 0 5 = n := by rw [e3, setA_ne (by omega)]; exact x5
    rw [x5']
    refine ⟨by omega, fun M4 e4 => ?_⟩
    have k1 : M4.1 701 0 = putN 150 (M.1 701 0) ((n : Int) * 5) k := by rw [e4, setI_ne (by omega), e3, setA_at, (f2.1 701 0 (by omega)).1, n4]
    have fA : FT M M4 := ((n3.tr f2.ft).tr (FT.eqA e3)).tr (FT.eqI e4)
    have y6 : M4.1 6 0 = ups (M2.1 6 0) 5 ((n : Int) + 1) := by rw [e4, setI_at, e3, setA_ne (by omega)]
    have y7 : M4.1 700 0 = M2.1 700 0 := by rw [e4, setI_ne (by omega), e3, setA_ne (by omega)]
    have eR : sgR s len (.inr (p + 1)) 59 = sgP s len (p + 1) 59 := rfl
    rw [eR] at g2
    obtain ⟨u1, u2, u3⟩ := g2
    cases e : sgP s len (p + 1) 59 with
    | inl a =>
      rw [e] at u3
      have u3 : M2.1 6 0 4 = (a : Int) := u3
      exact hno a (c1 a e) M4 fA (by rw [y7]; exact u1) (by rw [y6, ups_ne (by omega)]; exact u2) (by rw [y6, ups_ne (by omega)]; exact u3)
    | inr q =>
      rw [e] at u3
      obtain ⟨v1, v2, v3⟩ : M2.1 6 0 4 = -1 ∧ M2.1 6 0 2 = (q : Int) ∧ q ≤ len := u3
      refine hok q _ (c2 q e) M4 fA ⟨by rw [y7]; exact u1, by rw [y6, ups_ne (by omega)]; exact u2, by rw [y6, ups_ne (by omega)]; exact v1, by rw [y6, ups_ne (by omega)]; exact v2, v3⟩ (by rw [y6, ups_at]; rfl) ⟨?_, fun h => ?_⟩ fun j hj => ?_
      · rw [k1, putN_at (by omega) (by omega)]
      · have h : k ≤ 2 := h
        omega
      · rw [k1, putN_ne (by omega)]
  -- a rectangle
  have rect : ∀ k : Int, 0 ≤ k ∧ k ≤ 2 → chr s len p ≠ 0 → (∀ e, rcP s len (p + 1) = .inl e → cmP s len p = .inl e) → (∀ t, rcP s len (p + 1) = .inr t → cmP s len p = .inr (t.1, k, t.2)) → ((0 ≤ k → (((-2147483648 ≤ (M.1 6 0 2) + 1 ∧ (M.1 6 0 2) + 1 ≤ 2147483647)) ∧ (∀ M1_2 : Mm, M1_2 = setI M 6 0 2 ((M.1 6 0 2) + 1) → ((2 < k → (E_609 59 M1_2 (fun M1_3 : Mm => ((-2147483648 ≤ (M1_3.1 6 0 5) * 5 ∧ (M1_3.1 6 0 5) * 5 ≤ 2147483647)) ∧ (∀ M1_4 : Mm, M1_4 = setA M1_3 701 0 (putN 150 (M1_3.1 701 0) ((M1_3.1 6 0 5) * 5) k) → (((-2147483648 ≤ (M1_4.1 6 0 5) + 1 ∧ (M1_4.1 6 0 5) + 1 ≤ 2147483647)) ∧ (∀ M1_5 : Mm, M1_5 = setI M1_4 6 0 5 ((M1_4.1 6 0 5) + 1) → (Q M1_5))))))) ∧ (k ≤ 2 → (E_607 M1_2 (fun M1_6 : Mm => (E_609 59 M1_6 (fun M1_7 : Mm => ((-2147483648 ≤ (M1_7.1 6 0 5) * 5 ∧ (M1_7.1 6 0 5) * 5 ≤ 2147483647)) ∧ (∀ M1_8 : Mm, M1_8 = setA M1_7 701 0 (putN 150 (M1_7.1 701 0) ((M1_7.1 6 0 5) * 5) k) → (((-2147483648 ≤ (M1_8.1 6 0 5) + 1 ∧ (M1_8.1 6 0 5) + 1 ≤ 2147483647)) ∧ (∀ M1_9 : Mm, M1_9 = setI M1_8 6 0 5 ((M1_8.1 6 0 5) + 1) → (Q M1_9))))))))))))) ∧ (k < 0 → (∀ M1_1 : Mm, M1_1 = setI M 6 0 4 (M.1 6 0 2) → (Q M1_1)))) := by
    intro k hk hne c1 c2
    refine ⟨fun _ => ⟨by rw [t4]; omega, fun M1 e1 => ⟨fun h => by omega, fun _ => ?_⟩⟩, fun h => by omega⟩
    obtain ⟨n1, n2, n3, n4⟩ := nxt M1 e1 hne
    refine c607 h60 n1 n2 hn fun M2 v1 v2 v3 v4 R f2 x2 g2 hrc k2 => c609 (by decide) h60 g2 fun M3 f3 g3 => ?_
    have x5 : M3.1 6 0 5 = n := by rw [f3.2 5 (by omega) (by omega), x2 5 (by omega) (by omega)]; exact n2
    rw [x5]
    refine ⟨by omega, fun M4 e4 => ?_⟩
    have x5' : M4.1 6 0 5 = n := by rw [e4, setA_ne (by omega)]; exact x5
    rw [x5']
    refine ⟨by omega, fun M5 e5 => ?_⟩
    have k1 : M5.1 701 0 = putN 150 (putN 150 (putN 150 (putN 150 (putN 150 (M.1 701 0) ((5 * n + 1 : Nat) : Int) v1) ((5 * n + 2 : Nat) : Int) v2) ((5 * n + 3 : Nat) : Int) v3) ((5 * n + 4 : Nat) : Int) v4) ((n : Int) * 5) k := by rw [e5, setI_ne (by omega), e4, setA_at, (f3.1 701 0 (by omega)).1, k2, n4]
    have fA : FT M M5 := (((n3.tr f2).tr f3.ft).tr (FT.eqA e4)).tr (FT.eqI e5)
    have y6 : M5.1 6 0 = ups (M3.1 6 0) 5 ((n : Int) + 1) := by rw [e5, setI_at, e4, setA_ne (by omega)]
    have y7 : M5.1 700 0 = M3.1 700 0 := by rw [e5, setI_ne (by omega), e4, setA_ne (by omega)]
    obtain ⟨u1, u2, u3⟩ := g3
    cases e : rcP s len (p + 1) with
    | inl a =>
      rw [hrc.1 a e] at u3
      have u3 : M3.1 6 0 4 = (a : Int) := u3
      exact hno a (c1 a e) M5 fA (by rw [y7]; exact u1) (by rw [y6, ups_ne (by omega)]; exact u2) (by rw [y6, ups_ne (by omega)]; exact u3)
    | inr t =>
      obtain ⟨z0, z1, z2, z3, z4⟩ := hrc.2 t e
      rw [z0] at u3
      obtain ⟨w1, w2, w3⟩ : M3.1 6 0 4 = -1 ∧ M3.1 6 0 2 = (t.1 : Int) ∧ t.1 ≤ len := u3
      refine hok t.1 _ (c2 t e) M5 fA ⟨by rw [y7]; exact u1, by rw [y6, ups_ne (by omega)]; exact u2, by rw [y6, ups_ne (by omega)]; exact w1, by rw [y6, ups_ne (by omega)]; exact w2, w3⟩ (by rw [y6, ups_at]; rfl) ⟨?_, fun _ => ⟨?_, ?_, ?_, ?_⟩⟩ fun j hj => ?_
      · rw [k1, putN_at (by omega) (by omega)]
      · rw [k1, putN_ne (by omega), putN_ne (by omega), putN_ne (by omega), putN_ne (by omega), putN_at (by omega) rfl]; exact z1
      · rw [k1, putN_ne (by omega), putN_ne (by omega), putN_ne (by omega), putN_at (by omega) rfl]; exact z2
      · rw [k1, putN_ne (by omega), putN_ne (by omega), putN_at (by omega) rfl]; exact z3
      · rw [k1, putN_ne (by omega), putN_at (by omega) rfl]; exact z4
      · rw [k1, putN_ne (by omega), putN_ne (by omega), putN_ne (by omega), putN_ne (by omega), putN_ne (by omega)]
  -- which
  have rk : ∀ k : Int, chr s len p ≠ 114 → chr s len p ≠ 109 → (chr s len p = 43 ∨ chr s len p = 45 ∨ chr s len p = 94) → (if chr s len p ≠ 43 then (if chr s len p ≠ 45 then (2 : Int) else 1) else 0) = k → (∀ e, rcP s len (p + 1) = .inl e → cmP s len p = .inl e) ∧ (∀ t, rcP s len (p + 1) = .inr t → cmP s len p = .inr (t.1, k, t.2)) := fun k h1 h2 h3 h4 => by
    refine ⟨fun e he => ?_, fun t ht => ?_⟩
    · unfold cmP
      rw [if_neg h1, if_neg h2, if_pos h3, he]
    · unfold cmP
      rw [if_neg h1, if_neg h2, if_pos h3, ht, h4]
  refine s_606_0 ⟨fun h => ?_, fun h => ?_, fun h => ?_, fun h => ?_, fun h => ?_, fun h => ?_⟩
  · obtain ⟨c1, c2⟩ := rk 0 (by omega) (by omega) (Or.inl h) (by rw [if_neg (fun g => g h)])
    exact rect 0 (by omega) (by omega) c1 c2
  · obtain ⟨c1, c2⟩ := rk 1 (by omega) (by omega) (Or.inr (Or.inl h)) (by rw [if_pos (by omega), if_neg (fun g => g h)])
    exact rect 1 (by omega) (by omega) c1 c2
  · obtain ⟨c1, c2⟩ := rk 2 (by omega) (by omega) (Or.inr (Or.inr h)) (by rw [if_pos (by omega), if_pos (by omega)])
    exact rect 2 (by omega) (by omega) c1 c2
  · refine turn 4 (by omega) (by omega) (fun e he => ?_) fun q hq => ?_
    · unfold cmP
      rw [if_neg (by omega), if_pos h, he]
    · unfold cmP
      rw [if_neg (by omega), if_pos h, hq]
  · refine turn 3 (by omega) (by omega) (fun e he => ?_) fun q hq => ?_
    · unfold cmP
      rw [if_pos h, he]
    · unfold cmP
      rw [if_pos h, hq]
  · refine ⟨fun h => by omega, fun _ M1 e1 => hno p ?_ M1 (FT.eqI e1) (by rw [e1, setI_ne (by omega)]; exact t1) (by rw [e1, setI_at, ups_ne (by omega)]; exact t2) (by rw [e1, setI_at, ups_at]; exact t4)⟩
    unfold cmP
    rw [if_neg (by omega), if_neg (by omega), if_neg (by omega)]
/-- all commands from place p on, with at most F of them -/
def rdP (s : Nat → Int) (len : Nat) : Nat → Nat → Nat ⊕ List (Int × Int × Int × Int × Int)
  | 0, p => .inl p
  | F + 1, p => match cmP s len p with
    | .inl e => .inl e
    | .inr (q, c) => if q < len then (match rdP s len F q with
      | .inl e => .inl e
      | .inr l => .inr (c :: l)) else .inr [c]
theorem rdP_e {s : Nat → Int} {len F p e : Nat} (h : cmP s len p = .inl e) : rdP s len (F + 1) p = .inl e := by
  unfold rdP
  rw [h]
theorem rdP_l {s : Nat → Int} {len F p q : Nat} {c : Int × Int × Int × Int × Int} (h : cmP s len p = .inr (q, c)) (hq : ¬ q < len) : rdP s len (F + 1) p = .inr [c] := by
  unfold rdP
  rw [h]
  exact if_neg hq
theorem rdP_ce {s : Nat → Int} {len F p q e : Nat} {c : Int × Int × Int × Int × Int} (h : cmP s len p = .inr (q, c)) (hq : q < len) (g : rdP s len F q = .inl e) : rdP s len (F + 1) p = .inl e := by
  unfold rdP
  rw [h]
  show (if q < len then _ else _) = _
  rw [if_pos hq, g]
theorem rdP_cl {s : Nat → Int} {len F p q : Nat} {c : Int × Int × Int × Int × Int} {l : List (Int × Int × Int × Int × Int)} (h : cmP s len p = .inr (q, c)) (hq : q < len) (g : rdP s len F q = .inr l) : rdP s len (F + 1) p = .inr (c :: l) := by
  unfold rdP
  rw [h]
  show (if q < len then _ else _) = _
  rw [if_pos hq, g]
/-- commands as the class keeps them, from i on -/
def RwL (g : Nat → Int) (i : Nat) (l : List (Int × Int × Int × Int × Int)) : Prop := ∀ t c, l[t]? = some c → RwC g (i + t) c ∧ CmOk c
theorem c604 {s : Nat → Int} {len : Nat} {M : Mm} {Q : Int → Mm → Prop} (h60 : len ≤ 60) (h7 : M.1 700 0 = s) (h3 : M.1 6 0 3 = len)
    (hno : ∀ e, rdP s len 30 0 = .inl e → ∀ M', FT M M' → M'.1 6 0 3 = 0 → M'.1 6 0 4 = (e : Int) → Q 0 M')
    (hok : ∀ l, rdP s len 30 0 = .inr l → ∀ M', FT M M' → M'.1 6 0 3 = 0 → M'.1 6 0 4 = -1 → M'.1 6 0 5 = l.length → l.length ≤ 30 → RwL (M'.1 701 0) 0 l → Q 1 M') : E_604 M Q := by
  refine s_604_0 fun M1 e1 M2 e2 M3 e3 => ?_
  have x6 : M3.1 6 0 = ups (ups (ups (M.1 6 0) 2 0) 4 (-1)) 5 0 := by rw [e3, setI_at, e2, setI_at, e1, setI_at]
  have f3 : FT M M3 := by
    rw [e3, e2, e1]
    exact ((Fx.setI ⟨Or.inl rfl, rfl⟩).tr (Fx.setI ⟨Or.inl rfl, rfl⟩)).tr (Fx.setI ⟨Or.inl rfl, rfl⟩)
  have key : ∀ (F i p : Nat) (M' : Mm), F + i = 30 → 2 * i ≤ p → FT M M' → St6 M' s len (.inr p) → M'.1 6 0 5 = i → (i = 0 ∨ p < len) → (∀ e, rdP s len F p = .inl e → ∀ M2, FT M M2 → M2.1 6 0 3 = 0 → M2.1 6 0 4 = (e : Int) → Q 0 M2) → (∀ l, rdP s len F p = .inr l → ∀ M2, FT M M2 → M2.1 6 0 3 = 0 → M2.1 6 0 4 = -1 → M2.1 6 0 5 = (i + l.length : Nat) → i + l.length ≤ 30 → (∀ j, j < 5 * i → M2.1 701 0 j = M'.1 701 0 j) → RwL (M2.1 701 0) i l → Q 1 M2) → L_604_17 (i : Int) M' Q := by
    intro F
    induction F with
    | zero =>
      intro i p M' hF hp hf hT h5 hi hno hok
      omega
    | succ F ih =>
      intro i p M' hF hp hf hT h5 hi hno hok
      obtain ⟨t1, t2, t3, t4, t5⟩ := id hT
      -- the next command
      have cmd : E_605 M' (fun M1 : Mm => ((-2147483648 ≤ (i : Int) + 1 ∧ (i : Int) + 1 ≤ 2147483647)) ∧ (L_604_17 ((i : Int) + 1) M1 Q)) := by
        refine c605 h60 hT h5 (by omega) (fun e he M4 f4 a1 a2 a3 => ⟨by omega, ?_⟩) (fun q c hc M4 f4 a1 a2 a3 a4 => ⟨by omega, ?_⟩)
        · -- an error
          have er := rdP_e (F := F) he
          have fin : ∀ M5 : Mm, M5 = setI M4 6 0 3 0 → ∀ b : Int, b = (if 0 ≤ M5.1 6 0 4 then 0 else 1) → (b = 0 ∨ b = 1) ∧ Q b M5 := fun M5 e5 b eb => by
            have y : M5.1 6 0 4 = (e : Int) := by rw [e5, setI_at, ups_ne (by omega)]; exact a3
            rw [y, if_pos (by omega)] at eb
            rw [eb]
            exact ⟨Or.inl rfl, hno e er M5 ((hf.tr f4).tr (FT.eqI e5)) (by rw [e5, setI_at, ups_at]) y⟩
          exact s_604_17 ⟨fun _ => fin, fun _ => ⟨fun _ => fin, fun h => by omega⟩⟩
        · obtain ⟨o1, o2, o3⟩ := cmP_ok hc
          obtain ⟨b1, b2, b3, b4, b5⟩ := id a1
          by_cases hq : q < len
          · have := ih (i + 1) q M4 (by omega) (by omega) (hf.tr f4) a1 a2 (Or.inr hq) (fun e he => hno e (rdP_ce hc hq he)) (fun l hl M5 g1 g2 g3 g4 g5 g6 g7 => hok (c :: l) (rdP_cl hc hq hl) M5 g1 g2 g3 (by rw [g4, List.length_cons]; omega) (by rw [List.length_cons]; omega) (fun j hj => by rw [g6 j (by omega)]; exact a4 j hj) fun t d ht => ?_)
            · rwa [show ((i + 1 : Nat) : Int) = (i : Int) + 1 by omega] at this
            · cases t with
              | zero =>
                rw [List.getElem?_cons_zero] at ht
                cases ht
                exact ⟨a3.fx fun y hy => g6 y (by omega), o3⟩
              | succ t =>
                rw [List.getElem?_cons_succ] at ht
                have := g7 t d ht
                rwa [show i + 1 + t = i + (t + 1) by omega] at this
          · have er := rdP_l (F := F) hc hq
            have fin : ∀ M5 : Mm, M5 = setI M4 6 0 3 0 → ∀ b : Int, b = (if 0 ≤ M5.1 6 0 4 then 0 else 1) → (b = 0 ∨ b = 1) ∧ Q b M5 := fun M5 e5 b eb => by
              have y6 : M5.1 6 0 = ups (M4.1 6 0) 3 0 := by rw [e5, setI_at]
              have y : M5.1 6 0 4 = -1 := by rw [y6, ups_ne (by omega)]; exact b3
              rw [y, if_neg (by omega)] at eb
              rw [eb]
              refine ⟨Or.inr rfl, hok [c] er M5 ((hf.tr f4).tr (FT.eqI e5)) (by rw [y6, ups_at]) y (by rw [y6, ups_ne (by omega)]; exact a2) (by show i + 1 ≤ 30; omega) (fun j hj => by rw [e5, setI_ne (by omega)]; exact a4 j hj) fun t d ht => ?_⟩
              cases t with
              | zero =>
                rw [List.getElem?_cons_zero] at ht
                cases ht
                rw [e5, setI_ne (by omega)]
                exact ⟨a3, o3⟩
              | succ t =>
                rw [List.getElem?_cons_succ] at ht
                cases ht
            exact s_604_17 ⟨fun _ => fin, fun _ => ⟨fun _ => fin, fun _ => ⟨fun h => by omega, fun _ => ⟨fun _ => fin, fun h => by omega⟩⟩⟩⟩
      refine s_604_17 ⟨fun h => by omega, fun _ => ⟨fun h => by omega, fun _ => ⟨fun _ => cmd, fun h0 => ⟨fun h => ?_, fun _ => cmd⟩⟩⟩⟩
      rcases hi with hi | hi
      · omega
      · omega
  have := key 30 0 0 M3 rfl (by omega) f3 ⟨by rw [e3, setI_ne (by omega), e2, setI_ne (by omega), e1, setI_ne (by omega)]; exact h7, by rw [x6, ups_ne (by omega), ups_ne (by omega), ups_ne (by omega)]; exact h3, by rw [x6, ups_ne (by omega), ups_at], by rw [x6, ups_ne (by omega), ups_ne (by omega), ups_at]; rfl, by omega⟩ (by rw [x6, ups_at]; rfl) (Or.inl rfl) hno (fun l hl M2 g1 g2 g3 g4 g5 _ g7 => hok l hl M2 g1 g2 g3 (by rw [g4, Nat.zero_add]) (by omega) g7)
  exact this
/-! running the commands -/
def cmR (c : Int × Int × Int × Int × Int) (g : Nat → Int) : Nat → Int := if c.1 = 3 then (fun v => tq g v 12) else if c.1 = 4 then (fun v => mq g v 12) else chV c.1 c.2.1 c.2.2.1 c.2.2.2.1 c.2.2.2.2 g
def runL (l : List (Int × Int × Int × Int × Int)) (g : Nat → Int) : Nat → Int := l.foldl (fun g c => cmR c g) g
theorem cmR_cg {c : Int × Int × Int × Int × Int} {f g : Nat → Int} (h : ∀ y, y < 12 → f y = g y) : ∀ y, y < 12 → cmR c f y = cmR c g y := by
  intro y hy
  unfold cmR
  split
  · exact tq_congr h y 12
  · split
    · exact mq_congr h y 12
    · unfold chV
      rw [h y hy]
theorem runL_cg : ∀ {l : List (Int × Int × Int × Int × Int)} {f g : Nat → Int}, (∀ y, y < 12 → f y = g y) → ∀ y, y < 12 → runL l f y = runL l g y
  | [], _, _, h => h
  | c :: l, _, _, h => runL_cg (l := l) (cmR_cg (c := c) h)

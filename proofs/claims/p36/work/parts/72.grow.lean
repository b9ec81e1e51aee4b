/-! the class grows a branch -/
theorem c314 {o b n : Nat} {pr : Nat → Int} {M : Mm} {Q : Int → Mm → Prop} (h10 : M.1 3 o 10 = n) (hn : n ≤ 72) (h407 : ∀ c, c < n → M.1 407 o c = pr c) (hQ : Q (fsE (fun c => decide (pr c = b)) n) M) : E_314 o (b : Int) M Q := by
  refine s_314_0 ?_
  have key : ∀ (s c : Nat), c + s = n → (∀ c', c' < c → pr c' ≠ b) → L_314_2 o (b : Int) (c : Int) M Q := by
    intro s
    induction s with
    | zero =>
      intro c hc hno
      refine s_314_2 ⟨fun _ => ?_, fun h => by omega⟩
      rcases fsE_s (fun c => decide (pr c = b)) n with ⟨h1, -⟩ | ⟨e, h1, h2, h3, h4⟩
      · rw [h1] at hQ; exact hQ
      · exact absurd (of_decide_eq_true h3) (hno e (by omega))
    | succ s ih =>
      intro c hc hno
      have ep : parV (M.1 3 o 10) (M.1 407 o) (c : Int) = pr c := by
        unfold parV
        rw [h10, if_pos ⟨by omega, by omega⟩, atN_i (by omega) (by omega), Int.toNat_natCast]
        exact h407 c (by omega)
      refine s_314_2 ⟨fun h => by omega, fun _ => ?_⟩
      rw [ep]
      refine ⟨fun hne => ⟨by omega, ih (c + 1) (by omega) fun c' hc' => ?_⟩, fun heq => ?_⟩
      · by_cases k : c' = c
        · rw [k]; exact hne
        · exact hno c' (by omega)
      · rcases fsE_s (fun c => decide (pr c = b)) n with ⟨h1, h2⟩ | ⟨e, h1, h2, h3, h4⟩
        · have := of_decide_eq_false (h2 c (by omega))
          exact absurd heq this
        · have : e = c := by
            rcases Nat.lt_trichotomy e c with k | k | k
            · exact absurd (of_decide_eq_true h3) (hno e k)
            · exact k
            · exact absurd heq (of_decide_eq_false (h4 c k))
          rw [h2, this] at hQ
          exact hQ
  exact key n 0 (by omega) fun c' h => absurd h (Nat.not_lt_zero c')
/-- the class's components as a tree -/
def CTr (M : Mm) (N : Nat) (cnt : Nat → Nat) (pr : Nat → Nat → Int) : Prop := (M.1 5 0 11 = N ∧ N ≤ 12 ∧ M.1 3 12 10 = 0 ∧ ∀ k, N ≤ k → cnt k = 0) ∧ ∀ k, k < N → M.1 3 k 10 = cnt k ∧ cnt k ≤ 72 ∧ (∀ c, c < cnt k → M.1 407 k c = pr k c) ∧ ∀ b, b < cnt k → M.1 408 k b = kdn cnt pr k b
theorem CTr.fx {M M' : Mm} {N : Nat} {cnt : Nat → Nat} {pr : Nat → Nat → Int} (h : CTr M N cnt pr) (e : ∀ t j, t = 3 ∨ t = 5 ∨ t = 407 ∨ t = 408 → M'.1 t j = M.1 t j) : CTr M' N cnt pr := by
  unfold CTr
  rw [e 5 0 (by omega), e 3 12 (by omega)]
  refine ⟨h.1, fun k hk => ?_⟩
  rw [e 3 k (by omega), e 407 k (by omega), e 408 k (by omega)]
  exact h.2 k hk
/-- the next phase's components, whatever phase that is -/
theorem CTr.nx {M : Mm} {N : Nat} {cnt : Nat → Nat} {pr : Nat → Nat → Int} (h : CTr M N cnt pr) (k : Nat) : ∃ o, phV (M.1 5 0 11) ((k : Int) + 1) = o ∧ M.1 3 o 10 = cnt (k + 1) ∧ cnt (k + 1) ≤ 72 ∧ ∀ c, c < cnt (k + 1) → M.1 407 o c = pr (k + 1) c := by
  obtain ⟨⟨h1, h2, h3, h4⟩, h5⟩ := h
  by_cases hk : k + 1 < N
  · refine ⟨k + 1, ?_, (h5 (k + 1) hk).1, (h5 (k + 1) hk).2.1, (h5 (k + 1) hk).2.2.1⟩
    rw [show (k : Int) + 1 = ((k + 1 : Nat) : Int) by omega]
    exact phV_in (by omega) (by omega)
  · have h0 := h4 (k + 1) (by omega)
    refine ⟨12, ?_, by rw [h3, h0]; rfl, by omega, fun c hc => by omega⟩
    unfold phV
    rw [if_neg (by omega)]
def TGr (t j : Nat) : Prop := (t = 7 ∨ (800 ≤ t ∧ t ≤ 804) ∨ t = 806 ∨ t = 807 ∨ t = 808) ∧ j = 0
/-- a branch's record -/
def RecC (M : Mm) (cnt : Nat → Nat) (pr : Nat → Nat → Int) (i : Nat) (r : Rc) : Prop := M.1 800 0 i = r.1 ∧ M.1 801 0 i = r.2.2.1 ∧ M.1 802 0 i = r.2.1 ∧ M.1 803 0 i = r.2.2.2.2 ∧ M.1 804 0 i = kdn cnt pr r.2.2.1 r.2.2.2.1
theorem c703 {N k b i m : Nat} {iv : Int} {cnt : Nat → Nat} {pr : Nat → Nat → Int} {M : Mm} {Q : Mm → Prop} (hT : CTr M N cnt pr) (hk : k < N) (hb : b < cnt k) (h10 : M.1 7 0 10 = i) (h9 : M.1 7 0 9 = m) (hi : i < 864) (hm : m + kdn cnt pr (enF cnt pr 12 k b).1 (enF cnt pr 12 k b).2 ≤ 864)
    (hQ : ∀ M', Fx TGr M M' → M'.1 7 0 10 = (i + 1 : Nat) → M'.1 7 0 9 = (m + kdn cnt pr (enF cnt pr 12 k b).1 (enF cnt pr 12 k b).2 : Nat) → RecC M' cnt pr i (k, b, (enF cnt pr 12 k b).1, (enF cnt pr 12 k b).2, iv) → (∀ q, q < i → ∀ t, 800 ≤ t → t ≤ 804 → M'.1 t 0 q = M.1 t 0 q) → (∀ q, q < m → M'.1 806 0 q = M.1 806 0 q ∧ M'.1 807 0 q = M.1 807 0 q ∧ M'.1 808 0 q = M.1 808 0 q) → (∀ c, c < cnt ((enF cnt pr 12 k b).1 + 1) → isK pr (enF cnt pr 12 k b).1 (enF cnt pr 12 k b).2 c = true → M'.1 806 0 (m + (kdn cnt pr (enF cnt pr 12 k b).1 (enF cnt pr 12 k b).2 - 1 - cntB (isK pr (enF cnt pr 12 k b).1 (enF cnt pr 12 k b).2) c)) = ((enF cnt pr 12 k b).1 : Int) + 1 ∧ M'.1 807 0 (m + (kdn cnt pr (enF cnt pr 12 k b).1 (enF cnt pr 12 k b).2 - 1 - cntB (isK pr (enF cnt pr 12 k b).1 (enF cnt pr 12 k b).2) c)) = c ∧ M'.1 808 0 (m + (kdn cnt pr (enF cnt pr 12 k b).1 (enF cnt pr 12 k b).2 - 1 - cntB (isK pr (enF cnt pr 12 k b).1 (enF cnt pr 12 k b).2) c)) = i) → Q M') : E_703 (k : Int) (b : Int) iv M Q := by
  refine s_703_0 ?_
  generalize hen : enF cnt pr 12 k b = en at *
  obtain ⟨k', b'⟩ := en
  have hbd : ∀ k b : Nat, k < N → b < cnt k → phV (M.1 5 0 11) (k : Int) = k ∧ atN 72 (M.1 408 k) (b : Int) = kdn cnt pr k b := by
    intro k b hk hb
    obtain ⟨g1, g2, g3, g4⟩ := hT.2 k hk
    have hN := hT.1.1
    have hN2 := hT.1.2.1
    refine ⟨by rw [hN]; exact phV_in (by omega) (by omega), ?_⟩
    rw [atN_i (by omega) (by omega), Int.toNat_natCast]
    exact g4 b hb
  have fin : k' < N → b' < cnt k' → ∀ (x7 : Int), (∀ M1_8 : Mm, M1_8 = setA M 800 0 (putN 864 (M.1 800 0) (M.1 7 0 10) (k : Int)) → ∀ M1_9 : Mm, M1_9 = setA M1_8 801 0 (putN 864 (M1_8.1 801 0) (M1_8.1 7 0 10) (k' : Int)) → ∀ M1_10 : Mm, M1_10 = setA M1_9 802 0 (putN 864 (M1_9.1 802 0) (M1_9.1 7 0 10) (b : Int)) → ∀ M1_11 : Mm, M1_11 = setA M1_10 803 0 (putN 864 (M1_10.1 803 0) (M1_10.1 7 0 10) iv) → ∀ M1_12 : Mm, M1_12 = setA M1_11 804 0 (putN 864 (M1_11.1 804 0) (M1_11.1 7 0 10) (atN 72 (M1_11.1 408 (phV (M1_11.1 5 0 11) (k' : Int))) (b' : Int))) → E_702 (phV (M1_12.1 5 0 11) ((k' : Int) + 1)) ((k' : Int) + 1) (b' : Int) (M1_12.1 7 0 10) M1_12 (fun M1_13 : Mm => (-2147483648 ≤ (M1_13.1 7 0 10) + 1 ∧ (M1_13.1 7 0 10) + 1 ≤ 2147483647) ∧ ∀ M1_14 : Mm, M1_14 = setI M1_13 7 0 10 ((M1_13.1 7 0 10) + 1) → Q M1_14)) := by
    intro hk' hb' _ M1 e1 M2 e2 M3 e3 M4 e4 M5 e5
    have r0 : M1.1 7 0 = M.1 7 0 := by rw [e1, setA_ne (by omega)]
    have r1 : M2.1 7 0 = M.1 7 0 := by rw [e2, setA_ne (by omega), r0]
    have r2 : M3.1 7 0 = M.1 7 0 := by rw [e3, setA_ne (by omega), r1]
    have r3 : M4.1 7 0 = M.1 7 0 := by rw [e4, setA_ne (by omega), r2]
    have r4 : M5.1 7 0 = M.1 7 0 := by rw [e5, setA_ne (by omega), r3]
    have hf : Fx (fun t j => (800 ≤ t ∧ t ≤ 804) ∧ j = 0) M M5 := by
      rw [e5, e4, e3, e2, e1]
      exact ((((Fx.setA ⟨by omega, rfl⟩).tr (Fx.setA ⟨by omega, rfl⟩)).tr (Fx.setA ⟨by omega, rfl⟩)).tr (Fx.setA ⟨by omega, rfl⟩)).tr (Fx.setA ⟨by omega, rfl⟩)
    have a0 : M5.1 800 0 = putN 864 (M.1 800 0) (i : Int) (k : Int) := by rw [e5, setA_ne (by omega), e4, setA_ne (by omega), e3, setA_ne (by omega), e2, setA_ne (by omega), e1, setA_at, h10]
    have a1 : M5.1 801 0 = putN 864 (M.1 801 0) (i : Int) (k' : Int) := by rw [e5, setA_ne (by omega), e4, setA_ne (by omega), e3, setA_ne (by omega), e2, setA_at, r0, h10, e1, setA_ne (by omega)]
    have a2 : M5.1 802 0 = putN 864 (M.1 802 0) (i : Int) (b : Int) := by rw [e5, setA_ne (by omega), e4, setA_ne (by omega), e3, setA_at, r1, h10, e2, setA_ne (by omega), e1, setA_ne (by omega)]
    have a3 : M5.1 803 0 = putN 864 (M.1 803 0) (i : Int) iv := by rw [e5, setA_ne (by omega), e4, setA_at, r2, h10, e3, setA_ne (by omega), e2, setA_ne (by omega), e1, setA_ne (by omega)]
    have x5 : M4.1 5 0 = M.1 5 0 := by rw [e4, setA_ne (by omega), e3, setA_ne (by omega), e2, setA_ne (by omega), e1, setA_ne (by omega)]
    have x408 : ∀ o, M4.1 408 o = M.1 408 o := fun o => by rw [e4, setA_ne (by omega), e3, setA_ne (by omega), e2, setA_ne (by omega), e1, setA_ne (by omega)]
    have a4 : M5.1 804 0 = putN 864 (M.1 804 0) (i : Int) (kdn cnt pr k' b' : Int) := by
      rw [e5, setA_at, r3, h10, x5, x408, (hbd k' b' hk' hb').1, (hbd k' b' hk' hb').2, e4, setA_ne (by omega), e3, setA_ne (by omega), e2, setA_ne (by omega), e1, setA_ne (by omega)]
    have hT5 : CTr M5 N cnt pr := hT.fx fun t j ht => (hf t j (by omega)).1
    obtain ⟨o, o1, o2, o3, o4⟩ := hT5.nx k'
    rw [o1, r4, h10]
    refine c702 o2 o3 o4 (by rw [r4]; exact h9) hm fun M6 g1 g2 g3 g4 g5 => ?_
    have s10 : M6.1 7 0 10 = i := by rw [g3 10 (by omega), r4]; exact h10
    rw [s10]
    refine ⟨by omega, fun M7 e7 => hQ M7 ?_ ?_ ?_ ?_ (fun q hq t t1 t2 => ?_) (fun q hq => ?_) fun c hc hp => ?_⟩
    · rw [e7]
      exact ((hf.up fun t j h => ⟨by omega, h.2⟩).tr (g1.up fun t j h => ⟨by unfold TSt at h; omega, h.2⟩)).tr (Fx.setI ⟨by omega, rfl⟩)
    · rw [e7, setI_at, ups_at]; rfl
    · rw [e7, setI_at, ups_ne (by omega), g2]; rfl
    · have y : ∀ t, 800 ≤ t → t ≤ 804 → M7.1 t 0 = M5.1 t 0 := fun t t1 t2 => by rw [e7, setI_ne (by omega), (g1 t 0 (by unfold TSt; omega)).1]
      unfold RecC
      rw [y 800 (by omega) (by omega), y 801 (by omega) (by omega), y 802 (by omega) (by omega), y 803 (by omega) (by omega), y 804 (by omega) (by omega), a0, a1, a2, a3, a4, putN_at (by omega) rfl, putN_at (by omega) rfl, putN_at (by omega) rfl, putN_at (by omega) rfl, putN_at (by omega) rfl]
      exact ⟨rfl, rfl, rfl, rfl, rfl⟩
    · have y : M7.1 t 0 = M5.1 t 0 := by rw [e7, setI_ne (by omega), (g1 t 0 (by unfold TSt; omega)).1]
      rw [y]
      rcases (show t = 800 ∨ t = 801 ∨ t = 802 ∨ t = 803 ∨ t = 804 by omega) with rfl | rfl | rfl | rfl | rfl
      · rw [a0, putN_ne (by omega)]
      · rw [a1, putN_ne (by omega)]
      · rw [a2, putN_ne (by omega)]
      · rw [a3, putN_ne (by omega)]
      · rw [a4, putN_ne (by omega)]
    · have := g4 q hq
      rw [(hf 806 0 (by omega)).1, (hf 807 0 (by omega)).1, (hf 808 0 (by omega)).1] at this
      rw [e7, setI_ne (by omega), setI_ne (by omega), setI_ne (by omega)]
      exact this
    · have := g5 c hc (of_decide_eq_true hp)
      rw [e7, setI_ne (by omega), setI_ne (by omega), setI_ne (by omega)]
      exact this
  have key : ∀ (s x7 k2 b2 : Nat), x7 + s = 12 → k2 < N → b2 < cnt k2 → enF cnt pr s k2 b2 = (k', b') → L_703_9 (k : Int) (b : Int) iv (k2 : Int) (b2 : Int) (x7 : Int) M Q := by
    intro s
    induction s with
    | zero =>
      intro x7 k2 b2 hx hk2 hb2 he
      have e1 : k2 = k' := congrArg Prod.fst he
      have e2 : b2 = b' := congrArg Prod.snd he
      subst e1
      subst e2
      have hN2 := hT.1.2.1
      have fin := fin hk2 hb2 0
      exact s_703_9 ⟨fun _ M1 e1 M2 e2 M3 e3 M4 e4 M5 e5 => ⟨by omega, by omega, fin M1 e1 M2 e2 M3 e3 M4 e4 M5 e5⟩, fun h => by omega⟩
    | succ s ih =>
      intro x7 k2 b2 hx hk2 hb2 he
      have hN2 := hT.1.2.1
      obtain ⟨g1, g2⟩ := hbd k2 b2 hk2 hb2
      refine s_703_9 ⟨fun h => by omega, fun _ => ?_⟩
      rw [g1, g2]
      refine ⟨fun hne => ?_, fun heq => ?_⟩
      · have he2 := enF_e cnt pr (k := k2) (b := b2) (fun h => hne (by rw [h]; rfl)) (s + 1)
        rw [he] at he2
        have e1 : k' = k2 := congrArg Prod.fst he2
        have e2 : b' = b2 := congrArg Prod.snd he2
        subst e1
        subst e2
        have fin := fin hk2 hb2 0
        exact fun M1 e1 M2 e2 M3 e3 M4 e4 M5 e5 => ⟨by omega, by omega, fin M1 e1 M2 e2 M3 e3 M4 e4 M5 e5⟩
      · have h1 : kdn cnt pr k2 b2 = 1 := by omega
        obtain ⟨o, o1, o2, o3, o4⟩ := hT.nx k2
        rw [o1]
        refine ⟨by omega, c314 o2 o3 o4 ⟨by omega, ?_⟩⟩
        rw [enF_s cnt pr h1] at he
        have hpos : 0 < cntB (isK pr k2 b2) (cnt (k2 + 1)) := by
          have : cntB (isK pr k2 b2) (cnt (k2 + 1)) = 1 := h1
          omega
        obtain ⟨c0, hc0, hc1⟩ := cntB_pos hpos
        rcases fsE_s (isK pr k2 b2) (cnt (k2 + 1)) with ⟨z1, z2⟩ | ⟨e, z1, z2, -⟩
        · rw [z2 c0 hc0] at hc1; cases hc1
        · have hfe : fch cnt pr k2 b2 = e := by unfold fch; rw [z2]; exact Int.toNat_natCast e
          have hN1 : k2 + 1 < N := Classical.byContradiction fun hn => by
            have := hT.1.2.2.2 (k2 + 1) (by omega)
            omega
          rw [hfe] at he
          have := ih (x7 + 1) (k2 + 1) e (by omega) hN1 z1 he
          have z2' : fsE (fun c => decide (pr (k2 + 1) c = b2)) (cnt (k2 + 1)) = e := z2
          rw [z2']
          exact this
  exact key 12 0 k b rfl hk hb hen

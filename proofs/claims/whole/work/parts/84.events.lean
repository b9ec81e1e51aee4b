/-! events -/
theorem phV_out {n p : Int} (h : n ≤ p) : phV n p = 12 := by
  unfold phV
  rw [if_neg (by omega)]
abbrev PL (f : Nat → Int) (k : Nat) : Int → Int → Bool := lay f (2 * k + 1)
theorem IsN.emp {f : Nat → Int} {N : Nat} (h : IsN f N) : Vok (PL f N) ∧ vE (PL f N) = 0 ∧ vN (PL f N) = 0 := v_emp (lay_g f _) (lcnt_0.mp h.2)
/-- what the class says of phase k, the first that is empty included -/
theorem FrC.v {f : Nat → Int} {N k : Nat} {M : Mm} (hF : FrC M f N) (hNo : Non M) (hk : k ≤ N) : ∃ o, phV (M.1 5 0 11) (k : Int) = o ∧ M.1 2 o 13 = vE (PL f k) ∧ M.1 3 o 10 = nc f k ∧ M.1 2 o 12 = vH (PL f k) (vN (PL f k)) := by
  obtain ⟨hN, hT, hk2, -⟩ := hF
  have h12 := hN.le
  rw [hT.1.1]
  by_cases q : k < N
  · obtain ⟨-, -, -, -, a, b, -⟩ := (hk2 k q).2
    exact ⟨k, phV_in (by omega) (by omega), b, (hT.2 k q).1, a⟩
  · have e : k = N := by omega
    obtain ⟨-, v2, v3⟩ := hN.emp
    refine ⟨12, phV_out (by omega), ?_, ?_, ?_⟩
    · rw [hNo.2.2 13 (by omega) (by omega), e, v2]; rfl
    · rw [hNo.2.1, e, hN.nc0 (Nat.le_refl N)]; rfl
    · rw [hNo.2.2 12 (by omega) (by omega), e, v3]; rfl
/-- an event between phase j and the next -/
noncomputable def evB (f : Nat → Int) (j : Nat) : Bool := @decide (¬ (vE (PL f j) = vE (PL f (j + 1)) ∧ nc f j = nc f (j + 1) ∧ vH (PL f j) (vN (PL f j)) = vH (PL f (j + 1)) (vN (PL f (j + 1))))) inferInstance
noncomputable def evN (f : Nat → Int) (n : Nat) : Nat := cntB (evB f) n
theorem evB_t {f : Nat → Int} {j : Nat} : evB f j = true ↔ ¬ (vE (PL f j) = vE (PL f (j + 1)) ∧ nc f j = nc f (j + 1) ∧ vH (PL f j) (vN (PL f j)) = vH (PL f (j + 1)) (vN (PL f (j + 1)))) := decide_eq_true_iff
theorem ev_ex {f : Nat → Int} {N e : Nat} (h : e < evN f N) : ∃ j, j < N ∧ evB f j = true ∧ evN f j = e := by
  unfold evN at h ⊢
  rw [cntB_cP] at h
  obtain ⟨q, h1, h2, h3⟩ := cP_ex h
  exact ⟨q, h1, h2, by rw [cntB_cP]; exact h3⟩
theorem ev_lt {f : Nat → Int} {i j : Nat} (h : i < j) (hi : evB f i = true) : evN f i < evN f j := by
  unfold evN
  rw [cntB_cP, cntB_cP]
  exact cP_lt h hi
theorem c526 {f : Nat → Int} {N j : Nat} {M : Mm} {Q : Int → Mm → Prop} (hF : FrC M f N) (hNo : Non M) (hj : j < N) (hQ : Q (b2i (evB f j)) M) : E_526 ((j : Int) + 1) M Q := by
  have h12 := hF.1.le
  obtain ⟨o, a0, a1, a2, a3⟩ := hF.v hNo (k := j) (by omega)
  obtain ⟨o', b0, b1, b2, b3⟩ := hF.v hNo (k := j + 1) (by omega)
  refine s_526_0 ⟨by omega, ?_⟩
  rw [show (j : Int) + 1 - 1 = j by omega, show (j : Int) + 1 = ((j + 1 : Nat) : Int) by omega, a0, b0, a1, b1, a2, b2, a3, b3]
  intro b eb
  have e : b = b2i (evB f j) := by
    rw [eb]
    by_cases q1 : vE (PL f j) = vE (PL f (j + 1))
    · by_cases q2 : nc f j = nc f (j + 1)
      · by_cases q3 : vH (PL f j) (vN (PL f j)) = vH (PL f (j + 1)) (vN (PL f (j + 1)))
        · rw [if_neg (fun h => h (by rw [q1])), if_neg (fun h => h (by rw [q2])), if_pos q3]
          have : evB f j = false := by
            cases hb : evB f j with
            | false => rfl
            | true => exact absurd ⟨q1, q2, q3⟩ (evB_t.mp hb)
          rw [this]; rfl
        · rw [if_neg (fun h => h (by rw [q1])), if_neg (fun h => h (by rw [q2])), if_neg q3, evB_t.mpr (fun h => q3 h.2.2)]; rfl
      · rw [if_neg (fun h => h (by rw [q1])), if_pos (by omega), evB_t.mpr (fun h => q2 h.2.1)]; rfl
    · rw [if_pos (by omega), evB_t.mpr (fun h => q1 h.1)]; rfl
  rw [e]
  exact ⟨b2i_c _, hQ⟩
theorem c527 {f : Nat → Int} {N : Nat} {M : Mm} {Q : Int → Mm → Prop} (hF : FrC M f N) (hNo : Non M) (hQ : Q (evN f N) M) : E_527 M Q := by
  have h12 := hF.1.le
  have h11 := hF.2.1.1.1
  refine s_527_0 ?_
  have key : ∀ s j : Nat, j + s = N → L_527_4 (evN f j : Int) ((j : Int) + 1) M Q := by
    intro s
    induction s with
    | zero =>
      intro j hj
      have e : j = N := by omega
      refine s_527_4 ⟨fun _ => by rw [e]; exact hQ, fun h => by omega⟩
    | succ s ih =>
      intro j hj
      have hle : evN f j ≤ j := cntB_le _ _
      refine s_527_4 ⟨fun h => by omega, fun _ => c526 hF hNo (by omega) ⟨fun _ => by omega, fun x ex => ⟨by omega, ?_⟩⟩⟩
      have e : x = (evN f (j + 1) : Int) := by
        rw [ex]
        unfold evN
        cases hb : evB f j with
        | true => rw [cntB_y hb, if_neg (by rw [b2i_t]; omega)]; rfl
        | false => rw [cntB_n hb, if_pos b2i_f]
      rw [e]
      have := ih (j + 1) (by omega)
      rwa [show ((j + 1 : Nat) : Int) + 1 = (j : Int) + 1 + 1 by omega] at this
  exact key N 0 (by omega)
theorem c528 {f : Nat → Int} {N j : Nat} {M : Mm} {Q : Int → Mm → Prop} (hF : FrC M f N) (hNo : Non M) (hj : j < N) (hb : evB f j = true) (hQ : Q ((j : Int) + 1) M) : E_528 (evN f j : Int) M Q := by
  have h12 := hF.1.le
  have h11 := hF.2.1.1.1
  refine s_528_0 ?_
  have key : ∀ s i : Nat, i + s = j → L_528_4 (evN f j : Int) (evN f i : Int) ((i : Int) + 1) M Q := by
    intro s
    induction s with
    | zero =>
      intro i hi
      have e : i = j := by omega
      subst e
      refine s_528_4 ⟨fun h => by omega, fun _ => c526 hF hNo hj ⟨fun h => ?_, fun _ => ⟨fun h => absurd rfl h, fun _ => hQ⟩⟩⟩
      rw [hb] at h
      exact absurd h (by decide)
    | succ s ih =>
      intro i hi
      have hle : evN f i ≤ i := cntB_le _ _
      have := ih (i + 1) (by omega)
      rw [show ((i + 1 : Nat) : Int) + 1 = (i : Int) + 1 + 1 by omega] at this
      refine s_528_4 ⟨fun h => by omega, fun _ => c526 hF hNo (by omega) ?_⟩
      cases hbi : evB f i with
      | false =>
        refine ⟨fun _ => ⟨by omega, ?_⟩, fun h => absurd b2i_f h⟩
        have e : evN f (i + 1) = evN f i := cntB_n hbi
        rw [e] at this
        exact this
      | true =>
        have hlt := ev_lt (show i < j by omega) hbi
        refine ⟨fun h => absurd h (by decide), fun _ => ⟨fun _ => ⟨⟨by omega, by omega⟩, ?_⟩, fun h => by omega⟩⟩
        have e : evN f (i + 1) = evN f i + 1 := cntB_y hbi
        rw [e] at this
        rw [show (evN f i : Int) + 1 = ((evN f i + 1 : Nat) : Int) by omega]
        exact this
  exact key j 0 (by omega)
/-- components of a phase that vanish, that split -/
noncomputable def enN (f : Nat → Int) (j : Nat) (spl : Bool) : Nat := cntB (fun b => if spl = true then decide (1 < kdn (nc f) (prK f) j b) else decide (kdn (nc f) (prK f) j b = 0)) (nc f j)
theorem c315 {f : Nat → Int} {N k : Nat} {M : Mm} {Q : Int → Mm → Prop} (hF : FrC M f N) (hk : k < N) (hQ : Q (enN f k false) M) : E_315 k M Q := by
  obtain ⟨h10, h72, -, h408⟩ := hF.2.1.2 k hk
  refine s_315_0 ?_
  have key : ∀ s b : Nat, b + s = nc f k → L_315_4 k (cntB (fun b => if false = true then decide (1 < kdn (nc f) (prK f) k b) else decide (kdn (nc f) (prK f) k b = 0)) b : Int) (b : Int) M Q := by
    intro s
    induction s with
    | zero =>
      intro b hb
      have e : b = nc f k := by omega
      refine s_315_4 ⟨fun _ => by rw [e]; exact hQ, fun h => by omega⟩
    | succ s ih =>
      intro b hb
      have hle := cntB_le (fun b => if false = true then decide (1 < kdn (nc f) (prK f) k b) else decide (kdn (nc f) (prK f) k b = 0)) b
      refine s_315_4 ⟨fun h => by omega, fun _ => ?_⟩
      rw [atN_i (by omega) (by omega), Int.toNat_natCast, h408 b (by omega)]
      refine ⟨fun _ => by omega, fun x ex => ⟨by omega, ?_⟩⟩
      have := ih (b + 1) (by omega)
      have e : x = (cntB (fun b => if false = true then decide (1 < kdn (nc f) (prK f) k b) else decide (kdn (nc f) (prK f) k b = 0)) (b + 1) : Int) := by
        rw [ex]
        by_cases q : kdn (nc f) (prK f) k b = 0
        · rw [cntB_y (decide_eq_true q), if_neg (by omega)]; rfl
        · rw [cntB_n (decide_eq_false q), if_pos (by omega)]
      rw [e]
      exact this
  exact key (nc f k) 0 (by omega)
theorem c316 {f : Nat → Int} {N k : Nat} {M : Mm} {Q : Int → Mm → Prop} (hF : FrC M f N) (hk : k < N) (hQ : Q (enN f k true) M) : E_316 k M Q := by
  obtain ⟨h10, h72, -, h408⟩ := hF.2.1.2 k hk
  refine s_316_0 ?_
  have key : ∀ s b : Nat, b + s = nc f k → L_316_4 k (cntB (fun b => if true = true then decide (1 < kdn (nc f) (prK f) k b) else decide (kdn (nc f) (prK f) k b = 0)) b : Int) (b : Int) M Q := by
    intro s
    induction s with
    | zero =>
      intro b hb
      have e : b = nc f k := by omega
      refine s_316_4 ⟨fun _ => by rw [e]; exact hQ, fun h => by omega⟩
    | succ s ih =>
      intro b hb
      have hle := cntB_le (fun b => if true = true then decide (1 < kdn (nc f) (prK f) k b) else decide (kdn (nc f) (prK f) k b = 0)) b
      refine s_316_4 ⟨fun h => by omega, fun _ => ?_⟩
      rw [atN_i (by omega) (by omega), Int.toNat_natCast, h408 b (by omega)]
      refine ⟨fun _ => by omega, fun x ex => ⟨by omega, ?_⟩⟩
      have := ih (b + 1) (by omega)
      have e : x = (cntB (fun b => if true = true then decide (1 < kdn (nc f) (prK f) k b) else decide (kdn (nc f) (prK f) k b = 0)) (b + 1) : Int) := by
        rw [ex]
        by_cases q : 1 < kdn (nc f) (prK f) k b
        · rw [cntB_y (decide_eq_true q), if_neg (by omega)]; rfl
        · rw [cntB_n (decide_eq_false q), if_pos (by omega)]
      rw [e]
      exact this
  exact key (nc f k) 0 (by omega)
/-- what is said of an event -/
noncomputable def evV (f : Nat → Int) (j : Nat) (w : Int) : Int := if w = 0 then (j : Int) + 1 else if w = 1 then (vE (PL f j) : Int) else if w = 2 then (vE (PL f (j + 1)) : Int) else if w = 3 then (nc f j : Int) else if w = 4 then (nc f (j + 1) : Int) else if w = 5 then (enN f j false : Int) else (enN f j true : Int)
theorem c529 {f : Nat → Int} {N j : Nat} {w : Int} {M : Mm} {Q : Int → Mm → Prop} (hF : FrC M f N) (hNo : Non M) (hj : j < N) (hb : evB f j = true) (hQ : Q (evV f j w) M) : E_529 (evN f j : Int) w M Q := by
  have h12 := hF.1.le
  have h11 := hF.2.1.1.1
  obtain ⟨o, a0, a1, a2, a3⟩ := hF.v hNo (k := j) (by omega)
  obtain ⟨o', b0, b1, b2, b3⟩ := hF.v hNo (k := j + 1) (by omega)
  have a0' : phV (M.1 5 0 11) (j : Int) = j := by rw [h11]; exact phV_in (by omega) (by omega)
  have eo : o = j := by rw [← a0, a0']
  subst eo
  refine s_529_0 (c528 hF hNo hj hb ⟨by omega, ?_⟩)
  rw [show (o : Int) + 1 - 1 = o by omega, show (o : Int) + 1 = ((o + 1 : Nat) : Int) by omega, a0', b0]
  unfold evV at hQ
  refine ⟨fun h => ?_, fun h => ?_, fun h => ?_, fun h => ?_, fun h => ?_, fun h => ?_, fun h => ?_⟩
  · rw [if_pos h] at hQ; exact hQ
  · rw [if_neg (by omega), if_pos h] at hQ; rw [a1]; exact hQ
  · rw [if_neg (by omega), if_neg (by omega), if_pos h] at hQ; rw [b1]; exact hQ
  · rw [if_neg (by omega), if_neg (by omega), if_neg (by omega), if_pos h] at hQ; rw [a2]; exact hQ
  · rw [if_neg (by omega), if_neg (by omega), if_neg (by omega), if_neg (by omega), if_pos h] at hQ; rw [b2]; exact hQ
  · rw [if_neg (by omega), if_neg (by omega), if_neg (by omega), if_neg (by omega), if_neg (by omega), if_pos h] at hQ
    exact c315 hF hj hQ
  · rw [if_neg (by omega), if_neg (by omega), if_neg (by omega), if_neg (by omega), if_neg (by omega), if_neg (by omega)] at hQ
    exact c316 hF hj hQ
/-! the reference's -/
theorem c1037v {f : Nat → Int} {N k : Nat} {M : Mm} {Q : Int → Mm → Prop} (hF : FrM M f N) (hk : k ≤ N) (hQ : Q (vE (PL f k)) M) : E_1037 (k : Int) M Q := by
  have h12 := hF.1.le
  have h18 := hF.2.1.1.1
  by_cases q : k < N
  · have hm := (hF.2.2.2.1 k q).2.1
    exact c1037 h18 q h12 hm (Sok.of hm.1) hQ
  · have e : k = N := by omega
    refine s_1037_0 ⟨fun _ => ?_, fun h => by omega⟩
    rw [e, hF.1.emp.2.1] at hQ
    exact hQ
theorem c1038v {f : Nat → Int} {N k : Nat} {M : Mm} {Q : Int → Mm → Prop} (hF : FrM M f N) (hk : k ≤ N) (hQ : Q (vH (PL f k) (vN (PL f k))) M) : E_1038 (k : Int) M Q := by
  have h12 := hF.1.le
  have h18 := hF.2.1.1.1
  by_cases q : k < N
  · have hm := (hF.2.2.2.1 k q).2.1
    exact c1038 h18 q h12 hm (Sok.of hm.1) hQ
  · have e : k = N := by omega
    refine s_1038_0 (s_1038_4 ⟨fun _ => ?_, fun h => by omega⟩)
    rw [e, hF.1.emp.2.2] at hQ
    exact hQ
theorem c1076 {f : Nat → Int} {N j : Nat} {M : Mm} {Q : Int → Mm → Prop} (hF : FrM M f N) (hj : j < N) (hQ : Q (b2i (evB f j)) M) : E_1076 ((j : Int) + 1) M Q := by
  have h12 := hF.1.le
  have hn1 := (hF.2.1.2.1 j (by omega)).1
  have hn2 := (hF.2.1.2.1 (j + 1) (by omega)).1
  refine s_1076_0 ⟨by omega, ?_⟩
  rw [show (j : Int) + 1 - 1 = j by omega, show (j : Int) + 1 = ((j + 1 : Nat) : Int) by omega]
  refine c1037v hF (by omega) (c1037v hF (by omega) ⟨fun hne => ?_, fun heq => ⟨by omega, fun hne => ?_, fun heq2 => ⟨by omega, ?_⟩⟩⟩)
  · rw [evB_t.mpr (fun h => hne (by rw [h.1]))] at hQ; exact hQ
  · rw [Int.toNat_natCast, Int.toNat_natCast, hn1, hn2] at hne
    rw [evB_t.mpr (fun h => hne (by rw [h.2.1]))] at hQ; exact hQ
  · rw [Int.toNat_natCast, Int.toNat_natCast, hn1, hn2] at heq2
    refine c1038v hF (by omega) (c1038v hF (by omega) fun b eb => ?_)
    have e : b = b2i (evB f j) := by
      rw [eb]
      by_cases q3 : vH (PL f j) (vN (PL f j)) = vH (PL f (j + 1)) (vN (PL f (j + 1)))
      · rw [if_pos q3]
        have : evB f j = false := by
          cases hb : evB f j with
          | false => rfl
          | true => exact absurd ⟨by omega, by omega, q3⟩ (evB_t.mp hb)
        rw [this]; rfl
      · rw [if_neg q3, evB_t.mpr (fun h => q3 h.2.2)]; rfl
    rw [e]
    exact ⟨b2i_c _, hQ⟩
theorem c1077 {f : Nat → Int} {N k : Nat} {M : Mm} {Q : Int → Mm → Prop} (hF : FrM M f N) (hk : k ≤ N) (hQ : Q (evN f k) M) : E_1077 (k : Int) M Q := by
  have h12 := hF.1.le
  refine s_1077_0 ?_
  have key : ∀ s j : Nat, j + s = k → L_1077_4 (k : Int) (evN f j : Int) ((j : Int) + 1) M Q := by
    intro s
    induction s with
    | zero =>
      intro j hj
      have e : j = k := by omega
      refine s_1077_4 ⟨fun _ => by rw [e]; exact hQ, fun h => by omega⟩
    | succ s ih =>
      intro j hj
      have hle : evN f j ≤ j := cntB_le _ _
      refine s_1077_4 ⟨fun h => by omega, fun _ => c1076 hF (by omega) fun b eb => ?_⟩
      have hb1 : b = b2i (evB f j) := by
        rw [eb]
        cases hb : evB f j with
        | true => rfl
        | false => rfl
      have hb01 := b2i_c (evB f j)
      refine ⟨by omega, fun x ex => ⟨by omega, ?_⟩⟩
      have e : x = (evN f (j + 1) : Int) := by
        rw [ex, hb1]
        unfold evN
        cases hb : evB f j with
        | true => rw [cntB_y hb]; rfl
        | false => rw [cntB_n hb]; exact Int.add_zero _
      rw [e]
      have := ih (j + 1) (by omega)
      rwa [show ((j + 1 : Nat) : Int) + 1 = (j : Int) + 1 + 1 by omega] at this
  exact key k 0 (by omega)
theorem c1079 {f : Nat → Int} {N k : Nat} {s : Bool} {M : Mm} {Q : Int → Mm → Prop} (hF : FrM M f N) (hk : k < N) (hQ : Q (enN f k s) M) : E_1079 (k : Int) (b2i s) M Q := by
  have h12 := hF.1.le
  have hn := hF.2.1.2.1 k (by omega)
  have hkd := (hF.2.1.2.2 k hk).2
  refine s_1079_0 ?_
  unfold enN at hQ
  generalize hp : (fun b => if s = true then decide (1 < kdn (nc f) (prK f) k b) else decide (kdn (nc f) (prK f) k b = 0)) = p at *
  have key : ∀ r b : Nat, b + r = nc f k → L_1079_5 (k : Int) (b2i s) (cntB p b : Int) (b : Int) M Q := by
    intro r
    induction r with
    | zero =>
      intro b hb
      have e : b = nc f k := by omega
      refine s_1079_5 ?_
      rw [Int.toNat_natCast, hn.1]
      exact ⟨by omega, fun _ => by rw [e]; exact hQ, fun h => by omega⟩
    | succ r ih =>
      intro b hb
      have hle := cntB_le p b
      refine s_1079_5 ?_
      rw [Int.toNat_natCast, hn.1, show (80 * (k : Int) + (b : Int)).toNat = 80 * k + b by omega, hkd b (by omega)]
      refine ⟨by omega, fun h => by omega, fun _ => ⟨⟨by omega, by omega, by omega⟩, fun x5 e5 v ev => ?_⟩⟩
      have hv : v = b2i (p b) := by
        rw [ev, e5, ← hp]
        cases s with
        | false =>
          rw [if_pos b2i_f]
          by_cases q : kdn (nc f) (prK f) k b = 0
          · rw [if_neg (by omega)]
            show _ = b2i (decide (kdn (nc f) (prK f) k b = 0))
            rw [decide_eq_true q]; rfl
          · rw [if_pos (by omega)]
            show _ = b2i (decide (kdn (nc f) (prK f) k b = 0))
            rw [decide_eq_false q]; rfl
        | true =>
          rw [if_neg (by decide)]
          by_cases q : 1 < kdn (nc f) (prK f) k b
          · rw [if_neg (by omega)]
            show _ = b2i (decide (1 < kdn (nc f) (prK f) k b))
            rw [decide_eq_true q]; rfl
          · rw [if_pos (by omega)]
            show _ = b2i (decide (1 < kdn (nc f) (prK f) k b))
            rw [decide_eq_false q]; rfl
      have hb01 := b2i_c (p b)
      refine ⟨by omega, fun x ex => ⟨by omega, ?_⟩⟩
      have e : x = (cntB p (b + 1) : Int) := by
        rw [ex, hv]
        cases hb : p b with
        | true => rw [cntB_y hb]; rfl
        | false => rw [cntB_n hb]; exact Int.add_zero _
      rw [e]
      have := ih (b + 1) (by omega)
      rwa [show ((b + 1 : Nat) : Int) = (b : Int) + 1 by omega] at this
  exact key (nc f k) 0 (by omega)

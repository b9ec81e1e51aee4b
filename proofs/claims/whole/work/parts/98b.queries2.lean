/-! queries: heights, faces, areas, volume, phases -/
section Kinds2
variable {M : Mm} {K : Mm → Prop}
theorem IsH.cg {f g : Nat → Int} {px py h : Int} (e : cel f = cel g) (a : IsH f px py h) : IsH g px py h := by
  unfold IsH at a ⊢
  rw [← e]
  exact a
theorem k16 {x y : Int} (h : Inv M) (hK : ∀ M', Inv M' → K M') : W_1209 x y M (fun (r : Int) (M1 : Mm) => E_1062 x y M1 (fun (b : Int) (M2 : Mm) => M2.1 10 0 0 = r ∧ (r = 0 → M2.2 50 0 0 = (Int32.ofInt b).toInt64) ∧ K M2)) := by
  have c := CQ.rf h
  have v1 := inV_p x 0 96
  have v2 := inV_p y 0 96
  have bad : ¬ (0 ≤ x ∧ x ≤ 96 ∧ 0 ≤ y ∧ y ≤ 96) → E_1062 x y M (fun (b : Int) (M2 : Mm) => M2.1 10 0 0 = 1 ∧ ((1 : Int) = 0 → M2.2 50 0 0 = (Int32.ofInt b).toInt64) ∧ K M2) := fun hb => by
    have fin : ∀ M2, M2 = setI M 10 0 0 1 → ∀ b : Int, M2.1 10 0 0 = 1 ∧ ((1 : Int) = 0 → M2.2 50 0 0 = (Int32.ofInt b).toInt64) ∧ K M2 := fun M2 e2 b => fin1 h hK c ((RQ.rf (c.mi h)).set e2 NK0) (thr_v e2) (by decide)
    refine s_1062_0 ⟨fun _ M2 e2 => ⟨fun _ => fin M2 e2 0, fun h0 => by rw [thr_v e2] at h0; exact absurd h0 (by decide)⟩, fun _ b eb M2 e2 => ?_⟩
    rw [if_pos (by omega)] at eb
    rw [eb] at e2
    exact ⟨fun _ => fin M2 e2 0, fun h0 => by rw [thr_v e2] at h0; exact absurd h0 (by decide)⟩
  refine w_1209 (x_917 ⟨fun g => ⟨rfl, bad (by omega)⟩, fun g1 => ⟨fun g => ⟨rfl, bad (by omega)⟩, fun g2 => ⟨fun g => ⟨rfl, bad (by omega)⟩, fun g3 => ⟨fun g4 => ?_, fun g => ⟨rfl, bad (by omega)⟩⟩⟩⟩⟩)
  refine c415 rfl h.1.1 ⟨g1, g2⟩ ⟨g3, g4⟩ fun a ha => ?_
  refine s_1062_0 ⟨fun hz => by omega, fun _ b eb M2 e2 => ?_⟩
  rw [if_neg (by omega)] at eb
  rw [eb] at e2
  have m := (RQ.rf ((c.out ((Int32.ofInt a).toInt64)).mi h)).set e2 NK0
  have e1101 : M2.1 1101 0 = M.1 1101 0 := by rw [e2, setI_ne (by omega)]; rfl
  refine ⟨fun hne => absurd (thr_v e2) hne, fun _ => c1043 e1101 (h.1.1.cg h.1.2) ⟨g1, g2⟩ ⟨g3, g4⟩ fun a' ha' => fin0 h hK c m (thr_v e2) ((ha'.cg (cel_cg h.1.2)).un ha)⟩
theorem k17 {x y : Int} (h : Inv M) (hK : ∀ M', Inv M' → K M') : W_1210 x y M (fun (r : Int) (M1 : Mm) => E_1063 x y M1 (fun (b : Int) (M2 : Mm) => M2.1 10 0 0 = r ∧ (r = 0 → M2.2 50 0 0 = (Int32.ofInt b).toInt64) ∧ K M2)) := by
  have v1 := inV_p x 0 11
  have v2 := inV_p y 0 11
  have hi := isc x y
  refine w_1210 (x_918 ⟨fun hc => i502 h fun M1 c hF hN => ?_, fun hc => ⟨rfl, ?_⟩⟩)
  · refine s_518_0 ⟨⟨by omega, by omega⟩, ?_⟩
    have ev : atN 144 (M1.1 609 0) (y * 12 + x) = fcC (M.1 500 0) (12 * y + x).toNat := by
      rw [atN_i (by omega) (by omega), hF.2.2.2.2.2.2.2 _ (by omega), show y * 12 + x = 12 * y + x by omega]
    rw [ev]
    refine s_1063_0 (i1050q h (c.out _) fun M2 m hM => ⟨fun hz => by omega, fun _ b eb M3 e3 => ?_⟩)
    rw [if_neg (by omega)] at eb
    rw [eb] at e3
    refine ⟨fun _ => ⟨by omega, by omega, by omega⟩, fun b2 eb2 => fin0 h hK c (m.set e3 NK0) (thr_v e3) ?_⟩
    rw [thr_v e3, if_neg (fun g => g rfl)] at eb2
    rw [eb2, e3, setI_ne (by omega)]
    exact hM.2.2.2.2.2.2.2.1 _ (by omega)
  · have c := CQ.rf h
    refine s_1063_0 (i1050q h c fun M2 m hM => ?_)
    have fin : ∀ M3, M3 = setI M2 10 0 0 1 → (M3.1 10 0 0 = 0 → ((-2147483648 ≤ 12 * y ∧ 12 * y ≤ 2147483647) ∧ (-2147483648 ≤ (12 * y) + x ∧ (12 * y) + x ≤ 2147483647) ∧ (0 ≤ (12 * y) + x ∧ (12 * y) + x < 144))) ∧ ∀ b : Int, M3.1 10 0 0 = 1 ∧ ((1 : Int) = 0 → M3.2 50 0 0 = (Int32.ofInt b).toInt64) ∧ K M3 := fun M3 e3 => ⟨fun h0 => by rw [thr_v e3] at h0; exact absurd h0 (by decide), fun b => fin1 h hK c (m.set e3 NK0) (thr_v e3) (by decide)⟩
    refine ⟨fun _ M3 e3 => ⟨(fin M3 e3).1, fun b _ => (fin M3 e3).2 b⟩, fun _ b eb M3 e3 => ?_⟩
    rw [if_pos (by omega)] at eb
    rw [eb] at e3
    exact ⟨(fin M3 e3).1, fun b _ => (fin M3 e3).2 b⟩
/-- the area of half layers -/
theorem c514 {f : Nat → Int} {N k : Nat} {M : Mm} {Q : Int → Mm → Prop} (hF : FrC M f N) (hk : k ≤ 24) (hQ : Q (hcnt f k) M) : E_514 (k : Int) M Q := by
  refine s_514_0 ⟨⟨by omega, by omega⟩, ?_⟩
  have h4 := lcnt_hcnt f k
  have hle := hcnt_le f k
  have ev : atN 26 (M.1 607 0) (2 * (k : Int) + 1) = (4 * hcnt f k : Nat) := by
    by_cases q : 2 * k + 1 < 26
    · rw [show 2 * (k : Int) + 1 = ((2 * k + 1 : Nat) : Int) by omega, atN_in q, hF.2.2.2.1 _ q, if_neg (by omega), show 2 * k + 1 - 1 = 2 * k by omega, h4]
    · have h0 : lcnt f (2 * k) = 0 := lcnt_24 f (by omega)
      rw [atN_o (by omega), ← h4, h0]; rfl
  rw [ev]
  refine ⟨by omega, fun d ed => ?_⟩
  rw [tdiv_p (by omega)] at ed
  rw [show d = (hcnt f k : Int) by omega]
  exact hQ
theorem k18 {x : Int} (h : Inv M) (hK : ∀ M', Inv M' → K M') : W_1211 x M (fun (r : Int) (M1 : Mm) => E_1064 x M1 (fun (b : Int) (M2 : Mm) => M2.1 10 0 0 = r ∧ (r = 0 → M2.2 50 0 0 = (Int32.ofInt b).toInt64) ∧ K M2)) := by
  have v1 := inV_p x 0 24
  have bad : ¬ (0 ≤ x ∧ x ≤ 24) → E_1064 x M (fun (b : Int) (M2 : Mm) => M2.1 10 0 0 = 1 ∧ ((1 : Int) = 0 → M2.2 50 0 0 = (Int32.ofInt b).toInt64) ∧ K M2) := fun hb => by
    have c := CQ.rf h
    refine s_1064_0 (i1050q h c fun M2 m hM b eb M3 e3 => ?_)
    rw [if_pos (by omega)] at eb
    rw [eb] at e3
    exact ⟨fun h0 => by rw [thr_v e3] at h0; exact absurd h0 (by decide), fun b _ => fin1 h hK c (m.set e3 NK0) (thr_v e3) (by decide)⟩
  refine w_1211 (x_919 ⟨fun g => ⟨rfl, bad (by omega)⟩, fun g1 => ⟨fun g2 => i502 h fun M1 c hF hN => ?_, fun g => ⟨rfl, bad (by omega)⟩⟩⟩)
  obtain ⟨k, rfl⟩ : ∃ k : Nat, x = k := ⟨x.toNat, by omega⟩
  refine c514 hF (by omega) (s_1064_0 (i1050q h (c.out _) fun M2 m hM b eb M3 e3 => ?_))
  rw [if_neg (by omega)] at eb
  rw [eb] at e3
  refine ⟨fun _ => by omega, fun b2 eb2 => fin0 h hK c (m.set e3 NK0) (thr_v e3) ?_⟩
  rw [thr_v e3, if_neg (fun g => g rfl), Int.toNat_natCast] at eb2
  rw [eb2, e3, setI_ne (by omega)]
  exact hM.2.2.1 k (by omega)
/-- the volume -/
def volV (f : Nat → Int) (n : Nat) : Int := sumN (fun i => (hcnt f i : Int) + (lcnt f (2 * i + 1) : Int) + (hcnt f (i + 1) : Int)) n
def volH (f : Nat → Int) (n : Nat) : Int := sumN (fun i => (hcnt f i : Int) + (hcnt f (i + 1) : Int)) n
def volL (f : Nat → Int) (n : Nat) : Int := sumN (fun i => (lcnt f (2 * i + 1) : Int)) n
theorem vol_s (f : Nat → Int) : ∀ n, volV f n = volH f n + volL f n
  | 0 => rfl
  | n + 1 => by
    show volV f n + ((hcnt f n : Int) + (lcnt f (2 * n + 1) : Int) + (hcnt f (n + 1) : Int)) = (volH f n + ((hcnt f n : Int) + (hcnt f (n + 1) : Int))) + (volL f n + (lcnt f (2 * n + 1) : Int))
    rw [vol_s f n]
    omega
theorem vol_b (f : Nat → Int) : ∀ n, (0 ≤ volH f n ∧ volH f n ≤ 1152 * n) ∧ 0 ≤ volL f n ∧ volL f n ≤ 2304 * n
  | 0 => by
    have a : volH f 0 = 0 := rfl
    have b : volL f 0 = 0 := rfl
    omega
  | n + 1 => by
    have ih := vol_b f n
    have a : volH f (n + 1) = volH f n + ((hcnt f n : Int) + (hcnt f (n + 1) : Int)) := rfl
    have b : volL f (n + 1) = volL f n + (lcnt f (2 * n + 1) : Int) := rfl
    have h1 := hcnt_le f n
    have h2 := hcnt_le f (n + 1)
    have h3 := lcnt_le f (2 * n + 1)
    omega
theorem hc0 {f : Nat → Int} {N k : Nat} (h : IsN f N) (hk : N ≤ k) : hcnt f k = 0 := by
  have h1 : lcnt f (2 * N) = 0 := lcnt_even h.2
  have h2 := lcnt_up h1 (2 * (k - N))
  rw [show 2 * N + 2 * (k - N) = 2 * k by omega] at h2
  have := lcnt_hcnt f k
  omega
theorem volH_N {f : Nat → Int} {N : Nat} (h : IsN f N) : ∀ d, volH f (N + d) = volH f N
  | 0 => rfl
  | d + 1 => by
    show volH f (N + d) + ((hcnt f (N + d) : Int) + (hcnt f (N + d + 1) : Int)) = volH f N
    rw [volH_N h d, hc0 h (by omega), hc0 h (by omega)]
    omega
theorem k19 (h : Inv M) (hK : ∀ M', Inv M' → K M') : E_920 M (fun (r : Int) (M1 : Mm) => E_1066 M1 (fun (b : Int) (M2 : Mm) => r = b ∧ K M2)) := by
  refine s_920_0 (i502 h fun M1 c hF hN => ?_)
  generalize hf : M.1 500 0 = f at *
  have hI := hF.1
  have h12 := hI.le
  have h11 := hF.2.1.1.1
  have mod : E_1066 M1 (fun (b : Int) (M2 : Mm) => volV f (nP f) = b ∧ K M2) := by
    refine s_1066_0 fun M2 e2 => i1050s h c e2 fun M3 m hM => ?_
    rw [hf] at hM
    obtain ⟨gI, gT, gh, gk, -⟩ := hM
    have second : ∀ s p : Nat, p + s = nP f → L_1066_45 (volH f 25 + volL f p) (p : Int) M3 (fun (b : Int) (M2 : Mm) => volV f (nP f) = b ∧ K M2) := by
      intro s
      induction s with
      | zero =>
        intro p hp
        have ep : p = nP f := by omega
        refine s_1066_45 ⟨fun _ => ⟨?_, hK _ (h.q c m)⟩, fun g => by rw [gT.1.1] at g; omega⟩
        have e25 : volH f 25 = volH f (nP f) := by
          have := volH_N gI (25 - nP f)
          rwa [show nP f + (25 - nP f) = 25 by omega] at this
        rw [vol_s, e25, ep]
      | succ s ih =>
        intro p hp
        have b1 := vol_b f 25
        have b2 := vol_b f p
        have h3 := lcnt_le f (2 * p + 1)
        refine s_1066_45 ⟨fun g => by rw [gT.1.1] at g; omega, fun _ => c1065 (by omega) (gk p (by omega)).1 ?_⟩
        have el : cntL (lay f (2 * p + 1)) 48 48 = lcnt f (2 * p + 1) := rfl
        rw [el]
        refine ⟨by omega, fun x ex => ⟨by omega, ?_⟩⟩
        have := ih (p + 1) (by omega)
        have e : x = volH f 25 + volL f (p + 1) := by
          rw [ex]
          show _ = volH f 25 + (volL f p + (lcnt f (2 * p + 1) : Int))
          omega
        rw [e]
        rwa [show ((p + 1 : Nat) : Int) = (p : Int) + 1 by omega] at this
    have first : ∀ s k : Nat, k + s = 25 → L_1066_13 (volH f k) (k : Int) M3 (fun (b : Int) (M2 : Mm) => volV f (nP f) = b ∧ K M2) := by
      intro s
      induction s with
      | zero =>
        intro k hk
        have ek : k = 25 := by omega
        refine s_1066_13 ⟨fun _ => ?_, fun g => by omega⟩
        have := second (nP f) 0 (by omega)
        rw [show volL f 0 = 0 by rfl, Int.add_zero] at this
        rw [ek]
        exact this
      | succ s ih =>
        intro k hk
        have b1 := vol_b f k
        have h1 := hcnt_le f k
        have h2 := hcnt_le f (k + 1)
        refine s_1066_13 ⟨fun g => by omega, fun _ => ?_⟩
        rw [Int.toNat_natCast, show ((k : Int) + 1).toNat = k + 1 by omega, gh k (by omega), gh (k + 1) (by omega)]
        refine ⟨⟨by omega, by omega, by omega, by omega, by omega⟩, fun x ex => ⟨by omega, ?_⟩⟩
        have := ih (k + 1) (by omega)
        have e : x = volH f (k + 1) := ex
        rw [e]
        rwa [show ((k + 1 : Nat) : Int) = (k : Int) + 1 by omega] at this
    exact first 25 0 (by omega)
  refine s_515_0 ?_
  have cls : ∀ s k : Nat, k + s = nP f → L_515_4 (volV f k) (k : Int) M1 (fun (r : Int) (M1 : Mm) => E_1066 M1 (fun (b : Int) (M2 : Mm) => r = b ∧ K M2)) := by
    intro s
    induction s with
    | zero =>
      intro k hk
      have ek : k = nP f := by omega
      refine s_515_4 ⟨fun _ => ?_, fun g => by rw [h11] at g; omega⟩
      rw [ek]
      exact mod
    | succ s ih =>
      intro k hk
      have b0 := vol_s f k
      have b1 := vol_b f k
      have h1 := hcnt_le f k
      have h2 := hcnt_le f (k + 1)
      have h3 := lcnt_le f (2 * k + 1)
      have ev : atN 26 (M1.1 607 0) (2 * (k : Int) + 2) = (lcnt f (2 * k + 1) : Int) := by
        rw [show 2 * (k : Int) + 2 = ((2 * k + 2 : Nat) : Int) by omega, atN_in (by omega), hF.2.2.2.1 _ (by omega), if_neg (by omega)]
        rfl
      refine s_515_4 ⟨fun g => by rw [h11] at g; omega, fun _ => c514 hF (by omega) ?_⟩
      rw [ev]
      refine ⟨⟨by omega, by omega⟩, ⟨by omega, by omega⟩, ?_⟩
      rw [show (k : Int) + 1 = ((k + 1 : Nat) : Int) by omega]
      refine c514 hF (by omega) ⟨⟨by omega, by omega⟩, fun x ex => ⟨by omega, ?_⟩⟩
      have e : x = volV f (k + 1) := ex
      rw [e]
      exact ih (k + 1) (by omega)
  exact cls (nP f) 0 (by omega)
theorem k20 (h : Inv M) (hK : ∀ M', Inv M' → K M') : E_921 M (fun (r : Int) (M1 : Mm) => E_1067 M1 (fun (b : Int) (M2 : Mm) => r = b ∧ K M2)) := by
  refine s_921_0 (i502 h fun M1 c hF hN => s_1067_0 fun M2 e2 => i1050s h c e2 fun M3 m hM => ⟨?_, hK _ (h.q c m)⟩)
  rw [hF.2.1.1.1, hM.2.1.1.1]
theorem hp_p (n p : Int) : (hpV n p = 1 ∧ 0 ≤ p ∧ p < n) ∨ (hpV n p = 0 ∧ ¬ (0 ≤ p ∧ p < n)) := by
  unfold hpV
  by_cases q : 0 ≤ p ∧ p < n
  · rw [if_pos q]; exact Or.inl ⟨rfl, q⟩
  · rw [if_neg q]; exact Or.inr ⟨rfl, q⟩
/-- what is said of a phase -/
noncomputable def pvV (f : Nat → Int) (p : Nat) (w : Int) : Int := if w = 0 then (lcnt f (2 * p + 1) : Int) else if w = 1 then (nc f p : Int) else if w = 2 then (vN (PL f p) : Int) else if w = 3 then vH (PL f p) (vN (PL f p)) else if w = 4 then (vE (PL f p) : Int) else smV f p w
theorem c524 {f : Nat → Int} {p : Nat} {w : Int} {M : Mm} {Q : Int → Mm → Prop} (hF : FrC M f (nP f)) (hp : p < nP f) (hw : 0 ≤ w ∧ w ≤ 7) (hQ : Q (pvV f p w) M) : E_524 (p : Int) w M Q := by
  obtain ⟨hI, hT, hk, ht, hv, hE, -, -⟩ := hF
  have h12 := hI.le
  have h11 := hT.1.1
  have ep : phV (M.1 5 0 11) (p : Int) = p := by rw [h11]; exact phV_in (by omega) (by omega)
  obtain ⟨-, hcls⟩ := hk p hp
  obtain ⟨-, -, -, a11, a12, a13, a14, a15⟩ := id hcls
  unfold pvV at hQ
  refine s_524_0 ?_
  rw [ep]
  refine ⟨fun g => ⟨⟨by omega, by omega⟩, ?_⟩, fun g => ?_, fun g => ?_, fun g => ?_, fun g => ?_, fun g => ?_, fun g => ?_, fun g => ?_⟩
  · rw [if_pos g] at hQ
    rw [show 2 * (p : Int) + 2 = ((2 * p + 2 : Nat) : Int) by omega, atN_in (by omega), ht _ (by omega), if_neg (by omega)]
    exact hQ
  · rw [if_neg (by omega), if_pos g] at hQ
    rw [(hT.2 p hp).1]; exact hQ
  · rw [if_neg (by omega), if_neg (by omega), if_pos g] at hQ
    rw [a11]; exact hQ
  · rw [if_neg (by omega), if_neg (by omega), if_neg (by omega), if_pos g] at hQ
    rw [a12]; exact hQ
  · rw [if_neg (by omega), if_neg (by omega), if_neg (by omega), if_neg (by omega), if_pos g] at hQ
    rw [a13]; exact hQ
  · rw [if_neg (by omega), if_neg (by omega), if_neg (by omega), if_neg (by omega), if_neg (by omega)] at hQ
    unfold smV at hQ
    rw [if_neg (by omega)] at hQ
    rw [a14]
    have e : bS f p w = fun j => fl (lay f (2 * p + 1)) (vX (lay f (2 * p + 1)) j) (vY (lay f (2 * p + 1)) j) := by
      funext j
      unfold bS
      rw [if_neg (by omega)]
    rw [e] at hQ
    exact hQ
  · rw [if_neg (by omega), if_neg (by omega), if_neg (by omega), if_neg (by omega), if_neg (by omega)] at hQ
    unfold smV at hQ
    rw [if_pos g] at hQ
    rw [a15]; exact hQ
  · rw [if_neg (by omega), if_neg (by omega), if_neg (by omega), if_neg (by omega), if_neg (by omega)] at hQ
    unfold smV at hQ
    rw [if_neg (by omega)] at hQ
    refine c525 h11 (by omega) (by omega) hcls (Sok.of hcls.ok) (EG.of hv) hE ?_
    have e : bS f p w = fun i => decide (1 < cntB (oQ (lay f 1) (lay f (2 * p + 1)) (2 * p + 1) i) (vE (lay f 1))) := by
      funext j
      unfold bS
      rw [if_pos (by omega)]
    rw [e] at hQ
    exact hQ
theorem k21 {x w : Int} (h : Inv M) (hK : ∀ M', Inv M' → K M') : W_1212 x w M (fun (r : Int) (M1 : Mm) => E_1068 x w M1 (fun (b : Int) (M2 : Mm) => M2.1 10 0 0 = r ∧ (r = 0 → M2.2 50 0 0 = (Int32.ofInt b).toInt64) ∧ K M2)) := by
  refine w_1212 (x_922 (i502 h fun M1 c hF hN => ?_))
  have h11 := hF.2.1.1.1
  have h12 := hF.1.le
  rw [h11]
  have hp := hp_p (nP (M.1 500 0) : Int) x
  have vp := inV_p x 0 ((nP (M.1 500 0) : Int) - 1)
  have vw := inV_p w 0 7
  have bad1 : ¬ (0 ≤ x ∧ x < nP (M.1 500 0)) → E_1068 x w M1 (fun (b : Int) (M2 : Mm) => M2.1 10 0 0 = 1 ∧ ((1 : Int) = 0 → M2.2 50 0 0 = (Int32.ofInt b).toInt64) ∧ K M2) := fun hx => by
    refine s_1068_0 (i1050q h c fun M2 m hM => ?_)
    rw [hM.2.1.1.1]
    exact ⟨by omega, fun hin => by omega, fun _ M3 e3 => ⟨fun h0 => by rw [thr_v e3] at h0; exact absurd h0 (by decide), fun _ => fin1 h hK c (m.set e3 NK0) (thr_v e3) (by decide)⟩⟩
  have bad2 : 0 ≤ x → x < nP (M.1 500 0) → ¬ (0 ≤ w ∧ w ≤ 7) → E_1068 x w M1 (fun (b : Int) (M2 : Mm) => M2.1 10 0 0 = 2 ∧ ((2 : Int) = 0 → M2.2 50 0 0 = (Int32.ofInt b).toInt64) ∧ K M2) := fun hx hx2 hw => by
    refine s_1068_0 (i1050q h c fun M2 m hM => ?_)
    rw [hM.2.1.1.1]
    refine ⟨by omega, fun hin b eb M3 e3 => ?_, fun hz => by omega⟩
    rw [if_neg (by omega)] at eb
    rw [eb] at e3
    exact ⟨fun h0 => by rw [thr_v e3] at h0; exact absurd h0 (by decide), fun _ => fin1 h hK c (m.set e3 NK0) (thr_v e3) (by decide)⟩
  refine ⟨fun hv => ⟨fun hw => Or.inr ⟨rfl, bad2 (by omega) (by omega) (by omega)⟩, fun hw => ⟨fun hw2 => ?_, fun hw2 => Or.inr ⟨rfl, bad2 (by omega) (by omega) (by omega)⟩⟩⟩, fun hv => Or.inl ⟨rfl, bad1 (by omega)⟩⟩
  obtain ⟨p, rfl⟩ : ∃ p : Nat, x = p := ⟨x.toNat, by omega⟩
  have hpN : p < nP (M.1 500 0) := by omega
  refine c524 hF hpN ⟨hw, hw2⟩ (s_1068_0 (i1050q h (c.out _) fun M2 m hM => ?_))
  rw [hM.2.1.1.1]
  refine ⟨by omega, fun _ b eb M3 e3 => ?_, fun hz => by omega⟩
  rw [if_pos (by omega)] at eb
  rw [eb] at e3
  have m3 := m.set e3 NK0
  have t3 := thr_v e3
  have hM3 : FrM M3 (M.1 500 0) (nP (M.1 500 0)) := hM.mx (by rw [e3]; exact Fx.setI (by unfold TMX; omega)) fun q hq => by rw [e3, setI_at, ups_ne (fun z => NK0 (by rw [← z]; exact hq))]
  obtain ⟨gI, gT, gh, gk, gv, gE, gc, gf, -⟩ := id hM3
  refine ⟨fun _ => ?_, fun hne => absurd t3 hne⟩
  have hm := (gk p hpN).2.1
  rw [Int.toNat_natCast]
  refine ⟨fun g => c1065 (by omega) (gk p hpN).1 (fin0 h hK c m3 t3 ?_), fun g => ⟨by omega, fin0 h hK c m3 t3 ?_⟩, fun g => ⟨by omega, fin0 h hK c m3 t3 ?_⟩, fun g => c1038v hM3 (by omega) (fin0 h hK c m3 t3 ?_), fun g => c1037v hM3 (by omega) (fin0 h hK c m3 t3 ?_), fun g => c1069 (by omega) hm (EG.of gv) gE fun M4 r4 => fin0 h hK c (m3.r10 r4 fun q hq => by unfold S41 at hq; unfold NK; omega) (by rw [r4.2 0 (by unfold S41; omega)]; exact t3) ?_⟩
  · unfold pvV; rw [if_pos g]; rfl
  · unfold pvV; rw [if_neg (by omega), if_pos g]; exact (gT.2.1 p (by omega)).1
  · unfold pvV; rw [if_neg (by omega), if_neg (by omega), if_pos g]; exact hm.2.1.1
  · unfold pvV; rw [if_neg (by omega), if_neg (by omega), if_neg (by omega), if_pos g]
  · unfold pvV; rw [if_neg (by omega), if_neg (by omega), if_neg (by omega), if_neg (by omega), if_pos g]
  · unfold pvV; rw [if_neg (by omega), if_neg (by omega), if_neg (by omega), if_neg (by omega), if_neg (by omega)]
end Kinds2

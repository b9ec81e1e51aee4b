/-! queries: heights, faces, areas, volume, phases -/
section Kinds2
variable {M : Mm} {K : Mm → Prop}
theorem IsH.cg {f g : Nat → Int} {px py h : Int} (e : cel f = cel g) (a : IsH f px py h) : IsH g px py h := by
  unfold IsH at a ⊢
  rw [← e]
  exact a
/-- the area of half layers -/
theorem c514 {f : Nat → Int} {N k : Nat} {M : Mm} {Q : Int → Mm → Prop} (hF : FrC M f N) (hk : k ≤ 24) (hQ : Q (hcnt f k) M) : E_514 (k : Int) M Q := by
  refine s_514_0 ⟨⟨by omega, by omega⟩, ?_⟩
  have h4 := lcnt_hcnt f k
  have hle := hcnt_le f k
  have ev : atN 26 (M.1 607 0) (2 * (k : Int) + 1) = (4 * hcnt f k : Nat) := by
    by_cases q : 2 * k + 1 < 26
    · rw [show 2 * (k : Int) + 1 = ((2 * k + 1 : Nat) : Int) by omega, atN_in q, hF.2.2.2.1 _ q, if_neg (by omega), show 2 * k + 1 - 1 = 2 * k by omega, h4]
    · have h0 : lcnt f (2 * k) = 0 := lcnt_24 f (by omega)
      rw [atN_o (by omega), ← h4, h0]; rfl
  rw [ev]
  refine ⟨by omega, fun d ed => ?_⟩
  rw [tdiv_p (by omega)] at ed
  rw [show d = (hcnt f k : Int) by omega]
  exact hQ
/-- the volume -/
def volV (f : Nat → Int) (n : Nat) : Int := sumN (fun i => (hcnt f i : Int) + (lcnt f (2 * i + 1) : Int) + (hcnt f (i + 1) : Int)) n
def volH (f : Nat → Int) (n : Nat) : Int := sumN (fun i => (hcnt f i : Int) + (hcnt f (i + 1) : Int)) n
def volL (f : Nat → Int) (n : Nat) : Int := sumN (fun i => (lcnt f (2 * i + 1) : Int)) n
theorem vol_s (f : Nat → Int) : ∀ n, volV f n = volH f n + volL f n
  | 0 => rfl
  | n + 1 => by
    show volV f n + ((hcnt f n : Int) + (lcnt f (2 * n + 1) : Int) + (hcnt f (n + 1) : Int)) = (volH f n + ((hcnt f n : Int) + (hcnt f (n + 1) : Int))) + (volL f n + (lcnt f (2 * n + 1) : Int))
    rw [vol_s f n]
    omega
theorem vol_b (f : Nat → Int) : ∀ n, (0 ≤ volH f n ∧ volH f n ≤ 1152 * n) ∧ 0 ≤ volL f n ∧ volL f n ≤ 2304 * n
  | 0 => by
    have a : volH f 0 = 0 := rfl
    have b : volL f 0 = 0 := rfl
    omega
  | n + 1 => by
    have ih := vol_b f n
    have a : volH f (n + 1) = volH f n + ((hcnt f n : Int) + (hcnt f (n + 1) : Int)) := rfl
    have b : volL f (n + 1) = volL f n + (lcnt f (2 * n + 1) : Int) := rfl
    have h1 := hcnt_le f n
    have h2 := hcnt_le f (n + 1)
    have h3 := lcnt_le f (2 * n + 1)
    omega
theorem hc0 {f : Nat → Int} {N k : Nat} (h : IsN f N) (hk : N ≤ k) : hcnt f k = 0 := by
  have h1 : lcnt f (2 * N) = 0 := lcnt_even h.2
  have h2 := lcnt_up h1 (2 * (k - N))
  rw [show 2 * N + 2 * (k - N) = 2 * k by omega] at h2
  have := lcnt_hcnt f k
  omega
theorem volH_N {f : Nat → Int} {N : Nat} (h : IsN f N) : ∀ d, volH f (N + d) = volH f N
  | 0 => rfl
  | d + 1 => by
    show volH f (N + d) + ((hcnt f (N + d) : Int) + (hcnt f (N + d + 1) : Int)) = volH f N
    rw [volH_N h d, hc0 h (by omega), hc0 h (by omega)]
    omega
theorem hp_p (n p : Int) : (hpV n p = 1 ∧ 0 ≤ p ∧ p < n) ∨ (hpV n p = 0 ∧ ¬ (0 ≤ p ∧ p < n)) := by
  unfold hpV
  by_cases q : 0 ≤ p ∧ p < n
  · rw [if_pos q]; exact Or.inl ⟨rfl, q⟩
  · rw [if_neg q]; exact Or.inr ⟨rfl, q⟩
/-- what is said of a phase -/
noncomputable def pvV (f : Nat → Int) (p : Nat) (w : Int) : Int := if w = 0 then (lcnt f (2 * p + 1) : Int) else if w = 1 then (nc f p : Int) else if w = 2 then (vN (PL f p) : Int) else if w = 3 then vH (PL f p) (vN (PL f p)) else if w = 4 then (vE (PL f p) : Int) else smV f p w
theorem c524 {f : Nat → Int} {p : Nat} {w : Int} {M : Mm} {Q : Int → Mm → Prop} (hF : FrC M f (nP f)) (hp : p < nP f) (hw : 0 ≤ w ∧ w ≤ 7) (hQ : Q (pvV f p w) M) : E_524 (p : Int) w M Q := by
  obtain ⟨hI, hT, hk, ht, hv, hE, -, -⟩ := hF
  have h12 := hI.le
  have h11 := hT.1.1
  have ep : phV (M.1 5 0 11) (p : Int) = p := by rw [h11]; exact phV_in (by omega) (by omega)
  obtain ⟨-, hcls⟩ := hk p hp
  obtain ⟨-, -, -, a11, a12, a13, a14, a15⟩ := id hcls
  unfold pvV at hQ
  refine s_524_0 ?_
  rw [ep]
  refine ⟨fun g => ⟨⟨by omega, by omega⟩, ?_⟩, fun g => ?_, fun g => ?_, fun g => ?_, fun g => ?_, fun g => ?_, fun g => ?_, fun g => ?_⟩
  · rw [if_pos g] at hQ
    rw [show 2 * (p : Int) + 2 = ((2 * p + 2 : Nat) : Int) by omega, atN_in (by omega), ht _ (by omega), if_neg (by omega)]
    exact hQ
  · rw [if_neg (by omega), if_pos g] at hQ
    rw [(hT.2 p hp).1]; exact hQ
  · rw [if_neg (by omega), if_neg (by omega), if_pos g] at hQ
    rw [a11]; exact hQ
  · rw [if_neg (by omega), if_neg (by omega), if_neg (by omega), if_pos g] at hQ
    rw [a12]; exact hQ
  · rw [if_neg (by omega), if_neg (by omega), if_neg (by omega), if_neg (by omega), if_pos g] at hQ
    rw [a13]; exact hQ
  · rw [if_neg (by omega), if_neg (by omega), if_neg (by omega), if_neg (by omega), if_neg (by omega)] at hQ
    unfold smV at hQ
    rw [if_neg (by omega)] at hQ
    rw [a14]
    have e : bS f p w = fun j => fl (lay f (2 * p + 1)) (vX (lay f (2 * p + 1)) j) (vY (lay f (2 * p + 1)) j) := by
      funext j
      unfold bS
      rw [if_neg (by omega)]
    rw [e] at hQ
    exact hQ
  · rw [if_neg (by omega), if_neg (by omega), if_neg (by omega), if_neg (by omega), if_neg (by omega)] at hQ
    unfold smV at hQ
    rw [if_pos g] at hQ
    rw [a15]; exact hQ
  · rw [if_neg (by omega), if_neg (by omega), if_neg (by omega), if_neg (by omega), if_neg (by omega)] at hQ
    unfold smV at hQ
    rw [if_neg (by omega)] at hQ
    refine c525 h11 (by omega) (by omega) hcls (Sok.of hcls.ok) (EG.of hv) hE ?_
    have e : bS f p w = fun i => decide (1 < cntB (oQ (lay f 1) (lay f (2 * p + 1)) (2 * p + 1) i) (vE (lay f 1))) := by
      funext j
      unfold bS
      rw [if_pos (by omega)]
    rw [e] at hQ
    exact hQ
end Kinds2

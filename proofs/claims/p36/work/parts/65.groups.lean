/-! groups of edges -/
noncomputable def xK (P : Int → Int → Bool) : Nat → Nat := kE P (vX P) (vY P)
noncomputable def xG (P : Int → Int → Bool) : Nat := gN (xK P) (vE P)
/-- the first edge of a group -/
def Gf (P : Int → Int → Bool) (g i : Nat) : Prop := i < vE P ∧ cK (xK P) i (xK P i) = 0 ∧ gN (xK P) i = g
/-- lengths of the first n edges with a key -/
noncomputable def xW (P : Int → Int → Bool) (κ n : Nat) : Int := sumN (fun e => if xK P e = κ then xB P e - xA P e else 0) n
theorem xW_y {P : Int → Int → Bool} {κ n : Nat} (h : xK P n = κ) : xW P κ (n + 1) = xW P κ n + (xB P n - xA P n) := by
  show xW P κ n + (if xK P n = κ then xB P n - xA P n else 0) = _
  rw [if_pos h]
theorem xW_n {P : Int → Int → Bool} {κ n : Nat} (h : xK P n ≠ κ) : xW P κ (n + 1) = xW P κ n := by
  show xW P κ n + (if xK P n = κ then xB P n - xA P n else 0) = _
  rw [if_neg h]; omega
theorem xW_bd {P : Int → Int → Bool} (hg : EG P) {κ : Nat} : ∀ {n : Nat}, n ≤ vE P → -(12 * (n : Int)) ≤ xW P κ n ∧ xW P κ n ≤ 12 * (n : Int)
  | 0, _ => ⟨by show _ ≤ (0 : Int); omega, by show (0 : Int) ≤ _; omega⟩
  | n + 1, h => by
    have ih := xW_bd hg (κ := κ) (n := n) (by omega)
    have b : Dir (xD P n) ∧ (0 ≤ xL P n ∧ xL P n ≤ 12) ∧ (0 ≤ xA P n ∧ xA P n ≤ 12) ∧ 0 ≤ xB P n ∧ xB P n ≤ 12 := hg.2 n (by omega)
    by_cases e : xK P n = κ
    · rw [xW_y e]; omega
    · rw [xW_n e]; omega
noncomputable def gpV (P : Int → Int → Bool) (i : Nat) (w : Int) : Int := if w = 0 then xD P i else if w = 1 then xL P i else if w = 2 then (cK (xK P) (vE P) (xK P i) : Int) else xW P (xK P i) (vE P)
theorem gN_s {kk : Nat → Nat} {n : Nat} : gN kk (n + 1) = if cK kk n (kk n) = 0 then gN kk n + 1 else gN kk n := by
  split
  · next h => exact cntB_y (decide_eq_true h)
  · next h => exact cntB_n (decide_eq_false h)
theorem Gf.ex {P : Int → Int → Bool} {g : Nat} (h : g < xG P) : ∃ i, Gf P g i := by
  have key : ∀ n, n ≤ vE P → g < gN (xK P) n → ∃ i, Gf P g i := by
    intro n
    induction n with
    | zero => intro _ h; exact absurd h (Nat.not_lt_zero g)
    | succ n ih =>
      intro hn h
      by_cases h1 : g < gN (xK P) n
      · exact ih (by omega) h1
      · rw [gN_s] at h
        split at h
        · next h2 => exact ⟨n, by omega, h2, by omega⟩
        · exact absurd h h1
  exact key _ (Nat.le_refl _) h
theorem Gf.lt {P : Int → Int → Bool} {g i : Nat} (h : Gf P g i) : g < xG P := by
  have h1 : gN (xK P) (i + 1) ≤ xG P := cntB_mono h.1
  rw [gN_s, if_pos h.2.1] at h1
  have := h.2.2
  omega
theorem Gf.un {P : Int → Int → Bool} {g i j : Nat} (h : Gf P g i) (k : Gf P g j) : i = j := by
  have half : ∀ {i j : Nat}, Gf P g i → Gf P g j → ¬ i < j := by
    intro i j h k hlt
    have h1 : gN (xK P) (i + 1) ≤ gN (xK P) j := cntB_mono hlt
    rw [gN_s, if_pos h.2.1] at h1
    have := h.2.2
    have := k.2.2
    omega
  have := half h k
  have := half k h
  omega
theorem EG.kr {P : Int → Int → Bool} (hg : EG P) {i : Nat} (hi : i < vE P) : xK P i < 52 ∧ (xK P i : Int) = xD P i * 13 + xL P i := hg.k hi
theorem c11 {κ : Nat} {P : Int → Int → Bool} {M : Mm} {Q : Int → Mm → Prop} (hg : EG P) (hE : Edc M P) (hκ : κ < 52) (hQ : Q (xW P κ (vE P)) M) : E_11 (κ : Int) M Q := by
  have hT := hg.1
  obtain ⟨hB, c5, c6, c4, -, -⟩ := hE
  have c4 : ∀ i, i < vE P → M.1 104 0 (SK (xK P) (vE P) (xK P i) + cK (xK P) i (xK P i)) = i := c4
  have c5 : ∀ κ, κ ≤ 52 → M.1 105 0 κ = SK (xK P) (vE P) κ := c5
  have c6 : ∀ κ, κ < 52 → M.1 106 0 κ = (SK (xK P) (vE P) κ + cK (xK P) (vE P) κ : Nat) := c6
  have hSK := SK_le (xK P) (vE P) (κ + 1)
  have hSK2 : SK (xK P) (vE P) (κ + 1) = SK (xK P) (vE P) κ + cK (xK P) (vE P) κ := rfl
  refine s_11_0 fun x3 e3 x4 e4 => ?_
  rw [atN_i (by omega) (by omega), Int.toNat_natCast, c6 κ hκ] at e3
  rw [atN_i (by omega) (by omega), Int.toNat_natCast, c5 κ (by omega)] at e4
  have key : ∀ (s i : Nat), i + s = vE P → L_11_21 (κ : Int) (xW P κ i) x3 ((SK (xK P) (vE P) κ + cK (xK P) i κ : Nat) : Int) M Q := by
    intro s
    induction s with
    | zero =>
      intro i hi
      refine s_11_21 ⟨fun _ => ?_, fun h => by rw [e3, show i = vE P by omega] at h; omega⟩
      rw [show i = vE P by omega]; exact hQ
    | succ s ih =>
      intro i hi
      have hiT : i < vE P := by omega
      have ih := ih (i + 1) (by omega)
      by_cases hk : xK P i = κ
      · have hlt := cK_lt (xK P) hiT hk
        have h4 := c4 i hiT
        rw [hk] at h4
        obtain ⟨-, -, a3, a4⟩ := hB.at hg hiT
        have a3 : atN 340 (M.1 102 0) (i : Int) = xA P i := a3
        have a4 : atN 340 (M.1 103 0) (i : Int) = xB P i := a4
        have b : Dir (xD P i) ∧ (0 ≤ xL P i ∧ xL P i ≤ 12) ∧ (0 ≤ xA P i ∧ xA P i ≤ 12) ∧ 0 ≤ xB P i ∧ xB P i ≤ 12 := hg.2 i hiT
        have hw := xW_bd hg (κ := κ) (n := i) (by omega)
        refine s_11_21 ⟨fun h => by rw [e3] at h; omega, fun _ x5 e5 => ?_⟩
        have e5' : x5 = i := by rw [e5, atN_i (by omega) (by omega), Int.toNat_natCast]; exact h4
        rw [e5', a3, a4]
        refine ⟨⟨by omega, by omega⟩, fun y ey => ⟨by omega, ?_⟩⟩
        rw [xW_y hk, cK_y _ hk] at ih
        rw [ey]
        exact ih
      · rw [xW_n hk, cK_n _ hk] at ih
        exact ih
  have := key (vE P) 0 (by omega)
  rw [e4]
  exact this
theorem c10 {g i : Nat} {w : Int} {P : Int → Int → Bool} {M : Mm} {Q : Int → Mm → Prop} (hg : EG P) (hE : Edc M P) (hG : Gf P g i) (hQ : Q (gpV P i w) M) : E_10 (g : Int) w M Q := by
  have hT := hg.1
  have h52 : xG P ≤ 52 := gN_le (xK P) (vE P) fun j hj => (hg.kr hj).1
  have hlt := hG.lt
  obtain ⟨hk1, hk2⟩ := hg.kr hG.1
  have b : Dir (xD P i) ∧ (0 ≤ xL P i ∧ xL P i ≤ 12) ∧ (0 ≤ xA P i ∧ xA P i ≤ 12) ∧ 0 ≤ xB P i ∧ xB P i ≤ 12 := hg.2 i hG.1
  have b1 := b.1
  unfold Dir at b1
  have c7 : M.1 107 0 (gN (xK P) i) = xK P i := hE.2.2.2.2.2 i hG.1 hG.2.1
  have c5 : M.1 105 0 (xK P i) = SK (xK P) (vE P) (xK P i) := hE.2.1 _ (by omega)
  have c6 : M.1 106 0 (xK P i) = (SK (xK P) (vE P) (xK P i) + cK (xK P) (vE P) (xK P i) : Nat) := hE.2.2.1 _ hk1
  have hc : cK (xK P) (vE P) (xK P i) ≤ vE P := cntB_le _ _
  refine s_10_0 fun x3 e3 => ?_
  rw [atN_i (by omega) (by omega), Int.toNat_natCast, ← hG.2.2, c7] at e3
  rw [e3]
  unfold gpV at hQ
  refine ⟨fun h => ⟨by omega, fun d ed => ?_⟩, fun h => ⟨by omega, fun d ed => ?_⟩, fun h => ?_, fun h => ?_⟩
  · rw [if_pos h] at hQ
    rw [tdiv_p (by omega)] at ed
    rw [show d = xD P i by omega]; exact hQ
  · rw [if_neg (by omega), if_pos h] at hQ
    rw [tmod_p (by omega)] at ed
    rw [show d = xL P i by omega]; exact hQ
  · rw [if_neg (by omega), if_neg (by omega), if_pos h] at hQ
    rw [atN_i (by omega) (by omega), atN_i (by omega) (by omega), Int.toNat_natCast, c5, c6]
    refine ⟨by omega, ?_⟩
    rw [show ((SK (xK P) (vE P) (xK P i) + cK (xK P) (vE P) (xK P i) : Nat) : Int) - (SK (xK P) (vE P) (xK P i) : Nat) = (cK (xK P) (vE P) (xK P i) : Nat) by omega]
    exact hQ
  · rw [if_neg h.1, if_neg h.2.1, if_neg h.2.2] at hQ
    exact c11 hg hE hk1 hQ
/-! the reference's -/

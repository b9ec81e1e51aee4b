/-! a closed walk along the axes that meets itself nowhere turns once around -/
def ngI (z : Int) : Int := if z < 0 then 1 else 0
/-- how often a ray is crossed when the far end goes from t to t + 1, when the near end goes from i to i + 1 -/
def kR (X Y : Nat → Int) (i t : Nat) : Int := if 0 < X t - X i then ngI (Y t - Y i) - ngI (Y (t + 1) - Y i) else 0
def kC (X Y : Nat → Int) (i t : Nat) : Int := if 0 < X t - X i then ngI (Y t - Y i) - ngI (Y t - Y (i + 1)) else 0
/-- a side along an axis -/
def Sd (X Y D : Nat → Int) (i : Nat) : Prop := (D i = 0 ∧ X i < X (i + 1) ∧ Y (i + 1) = Y i) ∨ (D i = 1 ∧ X (i + 1) = X i ∧ Y i < Y (i + 1)) ∨ (D i = 2 ∧ X (i + 1) < X i ∧ Y (i + 1) = Y i) ∨ (D i = 3 ∧ X (i + 1) = X i ∧ Y (i + 1) < Y i)
/-- a level side and an upright one don't meet -/
def NH (X Y : Nat → Int) (h v : Nat) : Prop := Y (h + 1) = Y h → X (v + 1) = X v → ¬ ((X h ≤ X v ∧ X v ≤ X (h + 1) ∨ X (h + 1) ≤ X v ∧ X v ≤ X h) ∧ (Y v ≤ Y h ∧ Y h ≤ Y (v + 1) ∨ Y (v + 1) ≤ Y h ∧ Y h ≤ Y v))
theorem Sd.hv {X Y D : Nat → Int} {i : Nat} (h : Sd X Y D i) : Y (i + 1) = Y i ∨ X (i + 1) = X i := by
  rcases h with h | h | h | h
  · exact Or.inl h.2.2
  · exact Or.inr h.2.1
  · exact Or.inl h.2.2
  · exact Or.inr h.2.1
theorem kR_h {X Y : Nat → Int} {i t : Nat} (h : Y (t + 1) = Y t) : kR X Y i t = 0 := by
  unfold kR
  rw [h]
  split <;> omega
theorem kC_h {X Y : Nat → Int} {i t : Nat} (h : Y (i + 1) = Y i) : kC X Y i t = 0 := by
  unfold kC
  rw [h]
  split <;> omega
theorem cell_k {X Y D : Nat → Int} {i t : Nat} (hi : Sd X Y D i) (ht : Sd X Y D t) (h1 : NH X Y i t) (h2 : NH X Y t i) : kR X Y i t + kC X Y i (t + 1) = kC X Y i t + kR X Y (i + 1) t := by
  rcases hi.hv with a | a
  · rw [kC_h a, kC_h a]
    rcases ht.hv with b | b
    · rw [kR_h b, kR_h b]
    · have g := h1 a b
      unfold kR ngI
      rw [a]
      by_cases c1 : 0 < X t - X i <;> by_cases c2 : 0 < X t - X (i + 1) <;> by_cases c3 : Y t - Y i < 0 <;> by_cases c4 : Y (t + 1) - Y i < 0 <;> simp only [c1, c2, c3, c4, if_true, if_false] <;> omega
  · rcases ht.hv with b | b
    · rw [kR_h b, kR_h b]
      have g := h2 b a
      unfold kC ngI
      rw [b]
      by_cases c1 : 0 < X t - X i <;> by_cases c2 : 0 < X (t + 1) - X i <;> by_cases c3 : Y t - Y i < 0 <;> by_cases c4 : Y t - Y (i + 1) < 0 <;> simp only [c1, c2, c3, c4, if_true, if_false] <;> omega
    · unfold kR kC
      rw [a, b]
      split <;> omega
/-- along a row: s steps behind the first -/
def Rr (X Y : Nat → Int) (i s : Nat) : Int := sumN (fun q => kR X Y i (i + 1 + q)) s
def kd (X Y : Nat → Int) (i : Nat) : Int := kR X Y i (i + 1) + kC X Y i (i + 2)
theorem Rr_s (X Y : Nat → Int) (i s : Nat) : Rr X Y i (s + 1) = Rr X Y i s + kR X Y i (i + 1 + s) := rfl
section HO
variable {X Y D : Nat → Int} {m : Nat}
theorem row_k (hs : ∀ i, i < m → Sd X Y D i) (hN : ∀ i t, i + 2 ≤ t → t < m → ¬ (i = 0 ∧ t + 1 = m) → NH X Y i t ∧ NH X Y t i) {i : Nat} : ∀ r : Nat, i + 2 + r ≤ m → (i = 0 → i + 2 + r < m) → Rr X Y i (r + 1) + kC X Y i (i + 2 + r) = kd X Y i + Rr X Y (i + 1) r
  | 0, _, _ => by
    show (0 + kR X Y i (i + 1 + 0)) + kC X Y i (i + 2 + 0) = (kR X Y i (i + 1) + kC X Y i (i + 2)) + 0
    simp only [Nat.add_zero]
    omega
  | r + 1, h1, h2 => by
    have ih := row_k hs hN (i := i) r (by omega) (fun h => by omega)
    have hn := hN i (i + 2 + r) (by omega) (by omega) (fun h => by have := h2 h.1; omega)
    have hc := cell_k (hs i (by omega)) (hs (i + 2 + r) (by omega)) hn.1 hn.2
    have e1 := Rr_s X Y i (r + 1)
    have e2 := Rr_s X Y (i + 1) r
    have e3 : i + 1 + (r + 1) = i + 2 + r := by omega
    have e4 : i + 1 + 1 + r = i + 2 + r := by omega
    have e5 : i + 2 + (r + 1) = i + 2 + r + 1 := by omega
    rw [e3] at e1
    rw [e4] at e2
    rw [e5]
    omega
theorem turn_k {i : Nat} (h1 : Sd X Y D i) (h2 : Sd X Y D (i + 1)) {T : Int} (hT : T = 1 ∧ D (i + 1) = (D i + 1) % 4 ∨ T = -1 ∧ D (i + 1) = (D i + 3) % 4) : 2 * T = 2 * D (i + 1) - 2 * D i + 8 * kd X Y i := by
  unfold kd kR kC ngI
  have e : i + 1 + 1 = i + 2 := rfl
  rcases h1 with ⟨a, b, c⟩ | ⟨a, b, c⟩ | ⟨a, b, c⟩ | ⟨a, b, c⟩ <;> rcases h2 with ⟨a', b', c'⟩ | ⟨a', b', c'⟩ | ⟨a', b', c'⟩ | ⟨a', b', c'⟩ <;> (try (exfalso; omega)) <;> simp only [e] at * <;> (repeat' split) <;> omega
theorem sumN_head (g : Nat → Int) : ∀ n : Nat, sumN g (n + 1) = g 0 + sumN (fun q => g (1 + q)) n
  | 0 => by show 0 + g 0 = g 0 + 0; omega
  | n + 1 => by
    show sumN g (n + 1) + g (n + 1) = g 0 + (sumN (fun q => g (1 + q)) n + g (1 + n))
    rw [sumN_head g n, Nat.add_comm 1 n]
    omega
theorem hopf (hm : 4 ≤ m) (hs : ∀ i, i < m → Sd X Y D i) (hX : X m = X 0) (hY : Y m = Y 0)
    (hN : ∀ i t, i + 2 ≤ t → t < m → ¬ (i = 0 ∧ t + 1 = m) → NH X Y i t ∧ NH X Y t i)
    (hl : ∀ i, 0 < i → i < m → Y 0 < Y i ∨ Y i = Y 0 ∧ X 0 < X i) {T : Nat → Int}
    (hT : ∀ i, i + 1 < m → T i = 1 ∧ D (i + 1) = (D i + 1) % 4 ∨ T i = -1 ∧ D (i + 1) = (D i + 3) % 4) :
    (D 0 = 0 → D (m - 1) = 3 → sumN T (m - 1) = 3) ∧ (D 0 = 1 → D (m - 1) = 2 → sumN T (m - 1) = -3) := by
  -- the angles along the diagonal
  have t1 : ∀ q, q + 1 ≤ m → 2 * sumN T q = 2 * D q - 2 * D 0 + 8 * sumN (kd X Y) q := by
    intro q
    induction q with
    | zero => intro _; show 2 * (0 : Int) = 2 * D 0 - 2 * D 0 + 8 * 0; omega
    | succ q ih =>
      intro hq
      have h1 := ih (by omega)
      have h2 := turn_k (hs q (by omega)) (hs (q + 1) (by omega)) (hT q (by omega))
      show 2 * (sumN T q + T q) = 2 * D (q + 1) - 2 * D 0 + 8 * (sumN (kd X Y) q + kd X Y q)
      omega
  -- to the start again no ray is crossed
  have c0 : ∀ i, 0 < i → i + 1 < m → kC X Y i m = 0 := by
    intro i h0 h1
    rcases (hs i (by omega)).hv with a | a
    · exact kC_h a
    · have l1 := hl i h0 (by omega)
      have l2 := hl (i + 1) (by omega) h1
      unfold kC ngI
      rw [hX, hY]
      by_cases c1 : 0 < X 0 - X i
      · rw [if_pos c1, if_pos (by omega), if_pos (by omega)]; rfl
      · rw [if_neg c1]
  have r0 : ∀ s, s + 1 < m → Rr X Y 0 s = 0 := by
    intro s
    induction s with
    | zero => intro _; rfl
    | succ s ih =>
      intro h
      rw [Rr_s, ih (by omega)]
      have l1 := hl (0 + 1 + s) (by omega) (by omega)
      have l2 := hl (0 + 1 + s + 1) (by omega) (by omega)
      unfold kR ngI
      by_cases c1 : 0 < X (0 + 1 + s) - X 0
      · rw [if_pos c1, if_neg (by omega), if_neg (by omega)]; rfl
      · rw [if_neg c1]; rfl
  have s1 : ∀ q, q + 2 ≤ m → Rr X Y 1 (m - 2) = sumN (fun q => kd X Y (1 + q)) q + Rr X Y (1 + q) (m - 2 - q) := by
    intro q
    induction q with
    | zero => intro _; show _ = 0 + Rr X Y 1 (m - 2); omega
    | succ q ih =>
      intro h
      rw [ih (by omega)]
      have h1 := row_k hs hN (i := 1 + q) (m - 3 - q) (by omega) (fun h => by omega)
      have e1 : m - 3 - q + 1 = m - 2 - q := by omega
      have e2 : 1 + q + 2 + (m - 3 - q) = m := by omega
      rw [e1, e2, c0 (1 + q) (by omega) (by omega)] at h1
      have e3 : m - 2 - (q + 1) = m - 3 - q := by omega
      have e4 : 1 + (q + 1) = 1 + q + 1 := by omega
      rw [e3, e4]
      show _ = (sumN (fun q => kd X Y (1 + q)) q + kd X Y (1 + q)) + _
      omega
  have s2 := s1 (m - 2) (by omega)
  have e0 : Rr X Y (1 + (m - 2)) (m - 2 - (m - 2)) = 0 := by rw [Nat.sub_self]; rfl
  rw [e0] at s2
  have s3 := row_k hs hN (i := 0) (m - 3) (by omega) (fun _ => by omega)
  have e1 : m - 3 + 1 = m - 2 := by omega
  have e2 : 0 + 2 + (m - 3) = m - 1 := by omega
  rw [e1, e2, r0 (m - 2) (by omega)] at s3
  have s4 := Rr_s X Y 1 (m - 3)
  have e3 : 1 + 1 + (m - 3) = m - 1 := by omega
  rw [e1, e3] at s4
  have s5 := sumN_head (kd X Y) (m - 2)
  have e4 : m - 2 + 1 = m - 1 := by omega
  rw [e4] at s5
  have s6 := t1 (m - 1) (by omega)
  have s3' : 0 + kC X Y 0 (m - 1) = kd X Y 0 + Rr X Y 1 (m - 3) := s3
  have key : sumN (kd X Y) (m - 1) = kC X Y 0 (m - 1) + kR X Y 1 (m - 1) := by omega
  have hf := hs 0 (by omega)
  have hb := hs (m - 1) (by omega)
  have e5 : m - 1 + 1 = m := by omega
  unfold Sd at hf hb
  rw [e5, hX, hY] at hb
  constructor
  · intro d0 d1
    have e6 : (0 : Nat) + 1 = 1 := rfl
    rw [e6] at hf
    have k1 : kC X Y 0 (m - 1) = 0 := by
      unfold kC
      rw [if_neg (by omega)]
    have k2 : kR X Y 1 (m - 1) = 0 := by
      unfold kR
      rw [if_neg (by omega)]
    omega
  · intro d0 d1
    have e6 : (0 : Nat) + 1 = 1 := rfl
    rw [e6] at hf
    have k1 : kC X Y 0 (m - 1) = -1 := by
      unfold kC ngI
      rw [e6, if_pos (by omega), if_neg (by omega), if_pos (by omega)]
      rfl
    have k2 : kR X Y 1 (m - 1) = 0 := by
      unfold kR ngI
      rw [e5, hY, if_pos (by omega), if_pos (by omega), if_pos (by omega)]
      rfl
    omega
end HO

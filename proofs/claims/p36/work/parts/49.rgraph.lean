/-! the runs as a graph: the same components as the cells -/
theorem cP_gap {p : Nat → Prop} {n m : Nat} (h : n ≤ m) (g : ∀ x, n ≤ x → x < m → ¬ p x) : cP p m = cP p n := by
  induction m with
  | zero => rw [show n = 0 by omega]
  | succ m ih =>
    by_cases e : n = m + 1
    · rw [e]
    · rw [cP_n (g m (by omega) (by omega)), ih (by omega) (fun x h1 h2 => g x h1 (by omega))]
theorem cP_map {p p' : Nat → Prop} {φ : Nat → Nat} {R N : Nat} (hm : ∀ r s, r < s → s < R → φ r < φ s) (hN : ∀ r, r < R → φ r < N) (hp : ∀ x, x < N → (p' x ↔ ∃ r, r < R ∧ x = φ r ∧ p r)) : (∀ r, r < R → cP p' (φ r) = cP p r) ∧ cP p' N = cP p R := by
  have inj : ∀ r s, r < R → s < R → φ r = φ s → r = s := fun r s hr hs e => by
    rcases Nat.lt_trichotomy r s with g | g | g
    · have := hm r s g hs; omega
    · exact g
    · have := hm s r g hr; omega
  have key : ∀ r, r ≤ R → cP p' (if r < R then φ r else N) = cP p r := by
    intro r
    induction r with
    | zero =>
      intro _
      have : cP p' (if 0 < R then φ 0 else N) = cP p' 0 := by
        refine cP_gap (Nat.zero_le _) fun x _ hx hpx => ?_
        by_cases h0 : 0 < R
        · rw [if_pos h0] at hx
          have := hN 0 h0
          obtain ⟨r, h1, h2, -⟩ := (hp x (by omega)).mp hpx
          by_cases e : r = 0
          · subst e; omega
          · have := hm 0 r (by omega) h1
            omega
        · rw [if_neg h0] at hx
          obtain ⟨r, h1, -⟩ := (hp x hx).mp hpx
          omega
      rw [this]
      rfl
    | succ r ih =>
      intro hr
      have ih := ih (by omega)
      have hrR : r < R := by omega
      rw [if_pos hrR] at ih
      have e1 : cP p' (φ r + 1) = cP p (r + 1) := by
        by_cases h : p r
        · rw [cP_y h, cP_y ((hp _ (hN r hrR)).mpr ⟨r, hrR, rfl, h⟩), ih]
        · rw [cP_n h, cP_n (fun k => h (by
            obtain ⟨s, s1, s2, s3⟩ := (hp _ (hN r hrR)).mp k
            rw [inj r s hrR s1 s2]; exact s3)), ih]
      rw [← e1]
      have hle : φ r + 1 ≤ (if r + 1 < R then φ (r + 1) else N) := by
        split
        · next h => have := hm r (r + 1) (by omega) h; omega
        · have := hN r hrR; omega
      refine cP_gap hle fun x hx1 hx2 hpx => ?_
      have hxN : x < N := by
        split at hx2
        · next h => have := hN (r + 1) h; omega
        · exact hx2
      obtain ⟨s, s1, s2, -⟩ := (hp x hxN).mp hpx
      have h1 : r < s := by
        rcases Nat.lt_trichotomy r s with g | g | g
        · exact g
        · subst g; omega
        · have := hm s r g hrR; omega
      split at hx2
      · next h =>
        by_cases e : s = r + 1
        · subst e; omega
        · have := hm (r + 1) s (by omega) s1
          omega
      · next h => omega
  refine ⟨fun r hr => ?_, ?_⟩
  · have := key r (by omega)
    rwa [if_pos hr] at this
  · have := key R (Nat.le_refl R)
    rwa [if_neg (Nat.lt_irrefl R)] at this
section RG
variable {P : Int → Int → Bool} {S : Nat → Nat} {R : Nat} {rw a b : Nat → Nat}
def AR (R : Nat) (rw a b : Nat → Nat) (r s : Nat) : Prop := r < R ∧ s < R ∧ (rw r + 1 = rw s ∨ rw s + 1 = rw r) ∧ a r < b s ∧ a s < b r
theorem AR_sy (r s : Nat) (h : AR R rw a b r s) : AR R rw a b s r := ⟨h.2.1, h.1, h.2.2.1.symm, h.2.2.2.2, h.2.2.2.1⟩
theorem AR_bd (r s : Nat) (h : AR R rw a b r s) : s < R := h.2.1
/-- a run of row y -/
def RunP (P : Int → Int → Bool) (rw a b : Nat → Nat) (r y : Nat) : Prop := rw r = y ∧ a r < b r ∧ b r ≤ 48 ∧ (∀ x : Nat, a r ≤ x → x < b r → P x y = true) ∧ P (b r) y = false ∧ P ((a r : Int) - 1) y = false
theorem RS.mono (h : RS P S R rw a b) : ∀ {y z : Nat}, y ≤ z → z ≤ 48 → S y ≤ S z := by
  intro y z hyz hz
  induction z with
  | zero => rw [show y = 0 by omega]; exact Nat.le_refl _
  | succ z ih =>
    by_cases e : y = z + 1
    · rw [e]; exact Nat.le_refl _
    · exact Nat.le_trans (ih (by omega) (by omega)) (h.2.2 z (by omega)).1
theorem RS.row (h : RS P S R rw a b) {r : Nat} (hr : r < R) : ∃ y, y < 48 ∧ S y ≤ r ∧ r < S (y + 1) ∧ RunP P rw a b r y := by
  have key : ∀ n, n ≤ 48 → r < S n → ∃ y, y < n ∧ S y ≤ r ∧ r < S (y + 1) := by
    intro n
    induction n with
    | zero => intro _ h0; rw [h.1] at h0; exact absurd h0 (Nat.not_lt_zero r)
    | succ n ih =>
      intro hn h0
      by_cases e : r < S n
      · obtain ⟨y, h1, h2⟩ := ih (by omega) e
        exact ⟨y, by omega, h2⟩
      · exact ⟨n, by omega, by omega, h0⟩
  obtain ⟨y, h1, h2, h3⟩ := key 48 (Nat.le_refl _) (by rw [h.2.1]; exact hr)
  obtain ⟨p1, p2, p3, p4, p5, p6, p7⟩ := (h.2.2 y h1).2.1 r h2 h3
  exact ⟨y, h1, h2, h3, p1, p2, p3, p5, p6, p7⟩
theorem RS.rw48 (h : RS P S R rw a b) {r : Nat} (hr : r < R) : rw r < 48 ∧ S (rw r) ≤ r ∧ r < S (rw r + 1) ∧ RunP P rw a b r (rw r) := by
  obtain ⟨y, h1, h2, h3, h4⟩ := h.row hr
  have e : rw r = y := h4.1
  rw [e]
  exact ⟨h1, h2, h3, h4⟩
theorem RS.in_row (h : RS P S R rw a b) {r y : Nat} (hr : r < R) (hy : y < 48) (h1 : S y ≤ r) (h2 : r < S (y + 1)) : rw r = y := ((h.2.2 y hy).2.1 r h1 h2).1
/-- runs of one row in order -/
theorem RS.ord (h : RS P S R rw a b) {y : Nat} (hy : y < 48) : ∀ {s r : Nat}, r < s → S y ≤ r → s < S (y + 1) → b r < a s := by
  intro s
  induction s with
  | zero => intro r hrs; exact absurd hrs (Nat.not_lt_zero r)
  | succ s ih =>
    intro r hrs h1 h2
    have k := (h.2.2 y hy).2.2.1
    by_cases e : r = s
    · subst e; exact k r h1 h2
    · have h3 := ih (r := r) (by omega) h1 (by omega)
      have h4 := k s (by omega) h2
      have h5 := ((h.2.2 y hy).2.1 s (by omega) (by omega)).2.1
      omega
def fcR (rw a : Nat → Nat) (r : Nat) : Nat := 48 * rw r + a r
theorem RS.fcm (h : RS P S R rw a b) {r s : Nat} (hrs : r < s) (hs : s < R) : fcR rw a r < fcR rw a s := by
  obtain ⟨r1, r2, r3, r4, r5, r6, r7⟩ := h.rw48 (show r < R by omega)
  obtain ⟨s1, s2, s3, s4, s5, s6, s7⟩ := h.rw48 hs
  unfold fcR
  rcases Nat.lt_trichotomy (rw r) (rw s) with g | g | g
  · omega
  · have := h.ord s1 hrs (by rw [← g]; exact r2) s3
    rw [g]
    omega
  · have := h.mono (y := rw s + 1) (z := rw r) (by omega) (by omega)
    omega
def inRun (R : Nat) (rw a b : Nat → Nat) (q r : Nat) : Prop := r < R ∧ rw r = q / 48 ∧ a r ≤ q % 48 ∧ q % 48 < b r
theorem RS.run (h : RS P S R rw a b) {q : Nat} (hq : q < 2304) (hp : cp P q) : ∃ r, inRun R rw a b q r := by
  obtain ⟨r, h1, h2, h3, h4⟩ := (h.2.2 (q / 48) (by omega)).2.2.2 (q % 48) (by omega) hp (by omega)
  have hr : r < R := by
    have := h.mono (y := q / 48 + 1) (z := 48) (by omega) (Nat.le_refl _)
    rw [h.2.1] at this
    omega
  exact ⟨r, hr, h.in_row hr (by omega) h1 h2, h3, h4⟩
theorem RS.run1 (h : RS P S R rw a b) {q r s : Nat} (hr : inRun R rw a b q r) (hs : inRun R rw a b q s) : r = s := by
  obtain ⟨a1, a2, a3, a4⟩ := hr
  obtain ⟨b1, b2, b3, b4⟩ := hs
  obtain ⟨r1, r2, r3, -⟩ := h.rw48 a1
  obtain ⟨s1, s2, s3, -⟩ := h.rw48 b1
  have e : rw r = rw s := by omega
  rcases Nat.lt_trichotomy r s with g | g | g
  · have := h.ord s1 g (by rw [← e]; exact r2) s3
    omega
  · exact g
  · have := h.ord r1 g (by rw [e]; exact s2) r3
    omega
theorem RS.cell (h : RS P S R rw a b) {q r : Nat} (hr : inRun R rw a b q r) : cp P q ∧ q < 2304 := by
  obtain ⟨a1, a2, a3, a4⟩ := hr
  obtain ⟨r1, r2, r3, r4, r5, r6, r7, -⟩ := h.rw48 a1
  refine ⟨?_, by omega⟩
  have := r7 (q % 48) a3 a4
  rw [a2] at this
  exact this
theorem RS.fin (h : RS P S R rw a b) {r : Nat} (hr : r < R) : inRun R rw a b (fcR rw a r) r := by
  obtain ⟨r1, r2, r3, r4, r5, r6, r7, -⟩ := h.rw48 hr
  unfold fcR
  exact ⟨hr, by omega, by omega, by omega⟩
theorem RS.cn1 (g : InG P) (h : RS P S R rw a b) {q s r : Nat} (hq : inRun R rw a b q r) (hs : inRun R rw a b s r) : Cn (cp P) ad q s := by
  obtain ⟨a1, a2, a3, a4⟩ := hq
  obtain ⟨b1, b2, b3, b4⟩ := hs
  obtain ⟨r1, r2, r3, r4, r5, r6, r7, -⟩ := h.rw48 a1
  have k := row_cn g (y := ((q / 48 : Nat) : Int)) (a := ((q % 48 : Nat) : Int)) (b := ((s % 48 : Nat) : Int)) fun i hi => by
    obtain ⟨n, rfl⟩ : ∃ n : Nat, i = n := ⟨i.toNat, by omega⟩
    have := r7 n (by omega) (by omega)
    rw [a2] at this
    exact this
  rw [cid_self, show q / 48 = s / 48 by omega, cid_self] at k
  exact k
theorem RS.cn2 (g : InG P) (h : RS P S R rw a b) {q s r t : Nat} (hq : inRun R rw a b q r) (hs : inRun R rw a b s t) (hA : AR R rw a b r t) : Cn (cp P) ad q s := by
  obtain ⟨A1, A2, A3, A4, A5⟩ := hA
  obtain ⟨r1, r2, r3, r4, r5, r6, r7, -⟩ := h.rw48 A1
  obtain ⟨t1, t2, t3, t4, t5, t6, t7, -⟩ := h.rw48 A2
  obtain ⟨x, x1, x2, x3, x4⟩ : ∃ x, a r ≤ x ∧ x < b r ∧ a t ≤ x ∧ x < b t := by
    by_cases c : a r ≤ a t
    · exact ⟨a t, c, A5, Nat.le_refl _, t5⟩
    · exact ⟨a r, Nat.le_refl _, r5, by omega, A4⟩
  have i1 : inRun R rw a b (48 * rw r + x) r := ⟨A1, by omega, by omega, by omega⟩
  have i2 : inRun R rw a b (48 * rw t + x) t := ⟨A2, by omega, by omega, by omega⟩
  have hc := (h.cell i2).1
  have hadj : ad (48 * rw r + x) (48 * rw t + x) := by
    unfold ad
    omega
  exact ((h.cn1 g hq i1).st hadj hc).tr (h.cn1 g i2 hs)
theorem RS.cn3 (g : InG P) (h : RS P S R rw a b) {q r s : Nat} (hq : inRun R rw a b q r) (hc : Cn (fun r => r < R) (AR R rw a b) r s) : ∀ q', inRun R rw a b q' s → Cn (cp P) ad q q' := by
  refine hc (fun s => ∀ q', inRun R rw a b q' s → Cn (cp P) ad q q') (fun q' hq' => h.cn1 g hq hq') (fun c d hS hA hd q' hq' => ?_)
  exact (hS _ (h.fin hA.1)).tr (h.cn2 g (h.fin hA.1) hq' hA)
theorem RS.cn4 (g : InG P) (h : RS P S R rw a b) {q r q' : Nat} (hq : inRun R rw a b q r) (hc : Cn (cp P) ad q q') : ∀ r', inRun R rw a b q' r' → Cn (fun r => r < R) (AR R rw a b) r r' := by
  refine (hc (fun q' => cp P q' ∧ q' < 2304 ∧ ∀ r', inRun R rw a b q' r' → Cn (fun r => r < R) (AR R rw a b) r r') ⟨(h.cell hq).1, (h.cell hq).2, fun r' hr' => by rw [h.run1 hq hr']; exact Cn.rf _⟩ (fun c d hS hA hd => ⟨hd, hA.2.1, fun r' hr' => ?_⟩)).2.2
  obtain ⟨hc1, hc2, hc3⟩ := hS
  obtain ⟨rc, hrc⟩ := h.run hc2 hc1
  have k := hc3 rc hrc
  obtain ⟨-, -, hadj⟩ := hA
  obtain ⟨c1, c2, c3, c4⟩ := hrc
  obtain ⟨d1, d2, d3, d4⟩ := hr'
  obtain ⟨r1, r2, r3, r4, r5, r6, r7, r8, r9⟩ := h.rw48 c1
  rcases hadj with ⟨e1, e2⟩ | ⟨e1, e2⟩
  · have hin : inRun R rw a b d rc := by
      have hd' : P ((d % 48 : Nat) : Int) ((rw rc : Nat) : Int) = true := by
        have : P ((d % 48 : Nat) : Int) ((d / 48 : Nat) : Int) = true := hd
        rw [show rw rc = d / 48 by omega]
        exact this
      refine ⟨c1, by omega, ?_, ?_⟩
      · rcases Nat.lt_or_ge (d % 48) (a rc) with z | z
        · have : ((d % 48 : Nat) : Int) = (a rc : Int) - 1 := by omega
          rw [this, r9] at hd'
          cases hd'
        · exact z
      · rcases Nat.lt_or_ge (d % 48) (b rc) with z | z
        · exact z
        · have : d % 48 = b rc := by omega
          rw [this, r8] at hd'
          cases hd'
    rw [← h.run1 hin ⟨d1, d2, d3, d4⟩]
    exact k
  · exact k.st ⟨c1, d1, by omega, by omega, by omega⟩ d1
theorem RS.fi (g : InG P) (h : RS P S R rw a b) {q : Nat} (hq : q < 2304) : Fi (cp P) ad q ↔ ∃ r, r < R ∧ q = fcR rw a r ∧ Fi (fun r => r < R) (AR R rw a b) r := by
  have mono : ∀ r s, r < R → s < R → fcR rw a r < fcR rw a s → r < s := fun r s hr hs e => by
    rcases Nat.lt_trichotomy r s with k | k | k
    · exact k
    · subst k; omega
    · have := h.fcm k hr; omega
  have fle : ∀ q r, inRun R rw a b q r → fcR rw a r ≤ q := fun q r hr => by
    obtain ⟨a1, a2, a3, a4⟩ := hr
    unfold fcR
    omega
  constructor
  · rintro ⟨f1, f2⟩
    obtain ⟨r, hr⟩ := h.run hq f1
    have hf := h.fin hr.1
    have e : q = fcR rw a r := by
      rcases Nat.lt_or_ge (fcR rw a r) q with k | k
      · exact absurd (h.cn1 g hf hr) (f2 _ k (h.cell hf).1)
      · have := fle q r hr
        omega
    refine ⟨r, hr.1, e, hr.1, fun s hs hsR hc => ?_⟩
    have := h.cn3 g (h.fin hsR) hc q hr
    exact f2 _ (by rw [e]; exact h.fcm hs hr.1) (h.cell (h.fin hsR)).1 this
  · rintro ⟨r, r1, rfl, f1, f2⟩
    have hf := h.fin r1
    refine ⟨(h.cell hf).1, fun x hx hpx hc => ?_⟩
    obtain ⟨s, hs⟩ := h.run (by omega) hpx
    have hlt : s < r := mono s r hs.1 r1 (Nat.lt_of_le_of_lt (fle x s hs) hx)
    exact f2 s hlt hs.1 (h.cn4 g hs hc r hf)
theorem RS.cnt (g : InG P) (h : RS P S R rw a b) : (∀ r, r < R → cP (Fi (cp P) ad) (fcR rw a r) = cP (Fi (fun r => r < R) (AR R rw a b)) r) ∧ cP (Fi (cp P) ad) 2304 = cP (Fi (fun r => r < R) (AR R rw a b)) R :=
  cP_map (fun r s hrs hs => h.fcm hrs hs) (fun r hr => (h.cell (h.fin hr)).2) (fun x hx => h.fi g hx)
/-- the numbers of the runs are those of their cells -/
theorem RS.lab (g : InG P) (h : RS P S R rw a b) {l : Nat → Int} {n : Nat} (hl : IsL R (fun r => r < R) (AR R rw a b) l n) : n = cP (Fi (cp P) ad) 2304 ∧ ∀ q r, inRun R rw a b q r → l r = lb (cp P) q := by
  obtain ⟨c1, c2⟩ := h.cnt g
  refine ⟨by rw [hl.2.2, c2], fun q r hr => ?_⟩
  obtain ⟨r0, h0, h1, h2, h3⟩ := hl.2.1 r hr.1 hr.1
  have hr0 : r0 < R := by have := hr.1; omega
  have hf := h.fin hr0
  have hfi : Fi (cp P) ad (fcR rw a r0) := (h.fi g (h.cell hf).2).mpr ⟨r0, hr0, rfl, h1⟩
  rw [h3, lb_y hfi (h.cn3 g hf h2 q hr), c1 r0 hr0]
end RG

/-! the class's components -/
theorem ov_0 {u v : Int64} {a b c d : Nat} (hu : ∀ x, bJ u x = decide (a ≤ x ∧ x < b)) (hv : ∀ x, bJ v x = decide (c ≤ x ∧ x < d)) (hab : a < b) (hcd : c < d) : u &&& v = Int64.ofNat 0 ↔ ¬ (a < d ∧ c < b) := by
  constructor
  · intro h ⟨h1, h2⟩
    have hx : ∀ x, bJ (u &&& v) x = false := fun x => by rw [h, bJ_0]
    by_cases k : a ≤ c
    · have := hx c
      rw [bJ_and, hu, hv, decide_eq_true (by omega), decide_eq_true (by omega)] at this
      cases this
    · have := hx a
      rw [bJ_and, hu, hv, decide_eq_true (by omega), decide_eq_true (by omega)] at this
      cases this
  · intro h
    refine bJ_ext fun x _ => ?_
    rw [bJ_and, hu, hv, bJ_0]
    by_cases k : a ≤ x ∧ x < b
    · rw [decide_eq_true k, decide_eq_false (by omega)]; rfl
    · rw [decide_eq_false k]; rfl
def T309 (i t j : Nat) : Prop := (t = 405 ∨ t = 406) ∧ j = i
/-- the runs beside a run, in row y -/
theorem c309 {P : Int → Int → Bool} {S : Nat → Nat} {R n q head tail x i : Nat} {rw a b : Nat → Nat} {l0 : Nat → Int} {y : Int} {M : Mm} {Q : Int → Mm → Prop} (hS : RS P S R rw a b) (h288 : R ≤ 288) (hC : CR M i S R rw a b) (hn : M.1 3 i 10 = n) (hx : x < R) (hy : y = (rw x : Int) - 1 ∨ y = (rw x : Int) + 1) (hB : Bf R (fun r => r < R) (AR R rw a b) l0 q n (M.1 405 i) (M.1 406 i) head tail) (hh : head < tail) (hw : M.1 406 i head = x)
    (hQ : ∀ M' tail', Fx (T309 i) M M' → Bf R (fun r => r < R) (AR R rw a b) l0 q n (M'.1 405 i) (M'.1 406 i) head tail' → tail ≤ tail' → M'.1 406 i head = x → (∀ s, s < R → 0 ≤ M.1 405 i s → 0 ≤ M'.1 405 i s) → (∀ s, AR R rw a b x s → (rw s : Int) = y → 0 ≤ M'.1 405 i s) → Q (tail' : Int) M') : E_309 i (x : Int) y (tail : Int) M Q := by
  obtain ⟨x1, x2, x3, x4, x5, x6, x7, -⟩ := hS.rw48 hx
  obtain ⟨C1, C2, C3⟩ := hC
  -- the loop from lo to hi
  have loop : ∀ (t s : Nat) (hi : Nat) (M' : Mm) (tail' : Nat), s + t = hi → hi ≤ R → (∀ r, s ≤ r → r < hi → (rw r : Int) = y) → Fx (T309 i) M M' → Bf R (fun r => r < R) (AR R rw a b) l0 q n (M'.1 405 i) (M'.1 406 i) head tail' → tail ≤ tail' → M'.1 406 i head = x → (∀ s, s < R → 0 ≤ M.1 405 i s → 0 ≤ M'.1 405 i s) → (∀ r, r < R → AR R rw a b x r → (rw r : Int) = y → (r < s ∨ hi ≤ r) → 0 ≤ M'.1 405 i r) → L_309_30 i (x : Int) y (tail' : Int) (hi : Int) (s : Int) M' Q := by
    intro t
    induction t with
    | zero =>
      intro s hi M1 tail' hs hhi hrow g1 g2 g3 g4 g5 g6
      refine s_309_30 ⟨fun _ => hQ M1 tail' g1 g2 g3 g4 g5 fun r hA hr => g6 r hA.2.1 hA hr (by omega), fun g => by omega⟩
    | succ t ih =>
      intro s hi M1 tail' hs hhi hrow g1 g2 g3 g4 g5 g6
      have hsR : s < R := by omega
      obtain ⟨s1, s2, s3, s4, s5, s6, s7, -⟩ := hS.rw48 hsR
      have hsy := hrow s (Nat.le_refl s) (by omega)
      have ht := g2.tl
      have l1 : atN 288 (M1.1 405 i) (s : Int) = M1.1 405 i s := by rw [atN_i (by omega) (by omega), Int.toNat_natCast]
      have r1 : atJ 288 (M1.2 403 i) (s : Int) = M.2 403 i s := by rw [atJ_i (by omega) (by omega), Int.toNat_natCast, (g1 403 i (by simp [T309])).2]
      have r2 : atJ 288 (M1.2 403 i) (x : Int) = M.2 403 i x := by rw [atJ_i (by omega) (by omega), Int.toNat_natCast, (g1 403 i (by simp [T309])).2]
      have hov := ov_0 (C3 s hsR).2 (C3 x hx).2 s5 x5
      have n1 : M1.1 3 i 10 = n := by rw [(g1 3 i (by simp [T309])).1, hn]
      refine s_309_30 ⟨fun g => by omega, fun _ => ?_⟩
      rw [l1, r1, r2, hov, n1]
      refine ⟨fun hpos => ⟨by omega, ih (s + 1) hi M1 tail' (by omega) hhi (fun r h1 h2 => hrow r (by omega) h2) g1 g2 g3 g4 g5 fun r hr hA hry h => ?_⟩, fun hneg => ⟨fun hno => ⟨by omega, ih (s + 1) hi M1 tail' (by omega) hhi (fun r h1 h2 => hrow r (by omega) h2) g1 g2 g3 g4 g5 fun r hr hA hry h => ?_⟩, fun hyes M2 e2 M3 e3 => ⟨by omega, ?_⟩⟩⟩
      · by_cases e : r = s
        · subst e; exact hpos
        · exact g6 r hr hA hry (by omega)
      · by_cases e : r = s
        · subst e
          exact absurd ⟨hA.2.2.2.2, hA.2.2.2.1⟩ hno
        · exact g6 r hr hA hry (by omega)
      · have hAxs : AR R rw a b x s := by
          refine ⟨hx, hsR, by omega, ?_⟩
          have : a s < b x ∧ a x < b s := Classical.byContradiction fun h => hyes (hov.mpr h)
          omega
        have q405 : M3.1 405 i = putN 288 (M1.1 405 i) s n := by rw [e3, setA_ne (by omega), e2, setA_at]
        have q406 : M3.1 406 i = putN 288 (M1.1 406 i) tail' s := by rw [e3, setA_at, e2, setA_ne (by omega)]
        have htl := (g2.push (l' := ups (M1.1 405 i) s n) (w' := ups (M1.1 406 i) tail' s) (by omega) g4 hAxs hsR hsR hneg ups_at (fun z _ hz => ups_ne hz) ups_at (fun j hj => ups_ne (by omega))).2
        have hp := (g2.push (l' := M3.1 405 i) (w' := M3.1 406 i) (by omega) g4 hAxs hsR hsR hneg (by rw [q405, putN_at (by omega) rfl]) (fun z _ hz => by rw [q405, putN_ne (by omega)]) (by rw [q406, putN_at (by omega) rfl]) (fun j hj => by rw [q406, putN_ne (by omega)])).1
        have := ih (s + 1) hi M3 (tail' + 1) (by omega) hhi (fun r h1 h2 => hrow r (by omega) h2) (g1.tr (by rw [e3, e2]; exact (Fx.setA ⟨by simp, rfl⟩).tr (Fx.setA ⟨by simp, rfl⟩))) hp (by omega) (by rw [q406, putN_ne (by omega), g4]) (fun r hr h0 => ?_) (fun r hr hA hry h => ?_)
        · exact this
        · rw [q405]
          by_cases e : r = s
          · subst e; rw [putN_at (by omega) rfl]; omega
          · rw [putN_ne (by omega)]; exact g5 r hr h0
        · rw [q405]
          by_cases e : r = s
          · subst e; rw [putN_at (by omega) rfl]; omega
          · rw [putN_ne (by omega)]; exact g6 r hr hA hry (by omega)
  refine s_309_0 ⟨fun hneg v ev => ?_, fun hpos => ⟨by omega, fun v ev w ew => ?_⟩⟩
  · -- above the first row
    rw [atN_o (by omega)] at ev
    rw [ev]
    refine loop 0 0 0 M tail rfl (Nat.zero_le R) (fun r _ h => absurd h (Nat.not_lt_zero r)) Fx.rf hB (Nat.le_refl _) hw (fun _ _ h => h) (fun r hr hA hry _ => ?_)
    omega
  · by_cases hy48 : y < 48
    · obtain ⟨z, rfl⟩ : ∃ n : Nat, y = n := ⟨y.toNat, by omega⟩
      have hz : z < 48 := by omega
      rw [atN_i (by omega) (by omega), show ((z : Int) + 1).toNat = z + 1 by omega, C2 (z + 1) (by omega)] at ev
      rw [atN_i (by omega) (by omega), Int.toNat_natCast, C2 z (by omega)] at ew
      rw [ev, ew]
      have hle := (hS.2.2 z hz).1
      have hR : S (z + 1) ≤ R := by
        have := hS.mono (y := z + 1) (z := 48) (by omega) (Nat.le_refl _)
        rw [hS.2.1] at this
        exact this
      refine loop (S (z + 1) - S z) (S z) (S (z + 1)) M tail (by omega) hR (fun r h1 h2 => by rw [hS.in_row (by omega) hz h1 h2]) Fx.rf hB (Nat.le_refl _) hw (fun _ _ h => h) (fun r hr hA hry h => ?_)
      exfalso
      obtain ⟨r1, r2, r3, -⟩ := hS.rw48 hr
      have e : rw r = z := by omega
      rw [e] at r2 r3
      omega
    · rw [atN_o (by omega)] at ev
      have e48 : y = 48 := by omega
      rw [e48, show (48 : Int) = ((48 : Nat) : Int) from rfl, atN_i (by omega) (by omega), Int.toNat_natCast, C2 48 (by omega), hS.2.1] at ew
      rw [ev, ew]
      refine s_309_30 ⟨fun _ => hQ M tail Fx.rf hB (Nat.le_refl _) hw (fun _ _ h => h) fun r hA hry => ?_, fun g => by omega⟩
      have := hS.rw48 hA.2.1
      omega
theorem c308 {P : Int → Int → Bool} {S : Nat → Nat} {R n q i : Nat} {rw a b : Nat → Nat} {M : Mm} {Q : Mm → Prop} (hS : RS P S R rw a b) (h288 : R ≤ 288) (hC : CR M i S R rw a b) (hn : M.1 3 i 10 = n) (hq : q < R) (h0 : M.1 405 i q < 0) (hN : ∀ x, x < R → Cn (fun r => r < R) (AR R rw a b) q x → M.1 405 i x < 0)
    (hQ : ∀ M', Fx (T309 i) M M' → (∀ x, x < R → Cn (fun r => r < R) (AR R rw a b) q x → M'.1 405 i x = n) → (∀ x, x < R → ¬ Cn (fun r => r < R) (AR R rw a b) q x → M'.1 405 i x = M.1 405 i x) → Q M') : E_308 i (q : Int) M Q := by
  refine s_308_0 fun M1 e1 M2 e2 => ?_
  rw [hn] at e1
  have f2 : Fx (T309 i) M M2 := by
    rw [e2, e1]
    exact (Fx.setA ⟨by simp, rfl⟩).tr (Fx.setA ⟨by simp, rfl⟩)
  have l2 : M2.1 405 i = putN 288 (M.1 405 i) q n := by rw [e2, setA_ne (by omega), e1, setA_at]
  have w2 : M2.1 406 i = putN 288 (M.1 406 i) 0 q := by rw [e2, setA_at, e1, setA_ne (by omega)]
  have b2 : Bf R (fun r => r < R) (AR R rw a b) (M.1 405 i) q n (M2.1 405 i) (M2.1 406 i) 0 1 := by
    refine Bf.z hq hq h0 (by rw [l2, putN_at (by omega) rfl]) (fun x hx hne => by rw [l2, putN_ne (by omega)]) ?_
    have := putN_at (L := 288) (f := M.1 406 i) (j := 0) (v := q) (q := 0) (by omega) rfl
    rw [w2, this]
  have cr : ∀ M', Fx (T309 i) M M' → CR M' i S R rw a b ∧ M'.1 3 i 10 = n := by
    intro M' g
    obtain ⟨C1, C2, C3⟩ := hC
    refine ⟨⟨by rw [(g 3 i (by simp [T309])).1, C1], fun y hy => by rw [(g 402 i (by simp [T309])).1]; exact C2 y hy, fun r hr => ?_⟩, by rw [(g 3 i (by simp [T309])).1, hn]⟩
    rw [(g 404 i (by simp [T309])).1, (g 403 i (by simp [T309])).2]
    exact C3 r hr
  have key : ∀ (s head tail : Nat) (M' : Mm), head + s = R → Fx (T309 i) M M' → Bf R (fun r => r < R) (AR R rw a b) (M.1 405 i) q n (M'.1 405 i) (M'.1 406 i) head tail → L_308_25 i (q : Int) (tail : Int) (head : Int) M' Q := by
    intro s
    induction s with
    | zero =>
      intro head tail M3 hh g1 g2
      have ht := g2.tl
      have hht := g2.2.2.2.2.2
      have e : head = tail := by omega
      subst e
      obtain ⟨k1, k2⟩ := Bf.fin AR_bd hN g2
      exact s_308_25 ⟨fun _ => hQ M3 g1 k1 k2, fun g => by omega⟩
    | succ s ih =>
      intro head tail M3 hh g1 g2
      have ht := g2.tl
      refine s_308_25 ⟨fun hle => ?_, fun hlt => ⟨fun g => by omega, fun _ => ⟨by omega, fun v ev => ?_⟩⟩⟩
      · have hht := g2.2.2.2.2.2
        have e : head = tail := by omega
        subst e
        obtain ⟨k1, k2⟩ := Bf.fin AR_bd hN g2
        exact hQ M3 g1 k1 k2
      · obtain ⟨x, hx1, hx2, hx3, hx4, hx5⟩ := g2.2.1 head (by omega)
        rw [Int.toNat_natCast, hx1] at ev
        obtain ⟨c3, n3⟩ := cr M3 g1
        have rr : ∀ M', Fx (T309 i) M M' → atN 288 (M'.1 404 i) (x : Int) = (rw x : Int) := by
          intro M' g
          rw [atN_i (by omega) (by omega), Int.toNat_natCast, ((cr M' g).1.2.2 x hx2).1]
        have hrw := (hS.rw48 hx2).1
        rw [ev, rr M3 g1]
        refine ⟨by omega, c309 (y := (rw x : Int) - 1) hS h288 c3 n3 hx2 (Or.inl rfl) g2 (by omega) hx1 fun M4 tail4 f4 b4 t4 w4 p4 z4 => ?_⟩
        have f14 := g1.tr f4
        obtain ⟨c4, n4⟩ := cr M4 f14
        rw [rr M4 f14]
        refine ⟨by omega, c309 (y := (rw x : Int) + 1) hS h288 c4 n4 hx2 (Or.inr rfl) b4 (by omega) w4 fun M5 tail5 f5 b5 t5 w5 p5 z5 => ⟨by omega, ?_⟩⟩
        refine ih (head + 1) tail5 M5 (by omega) (f14.tr f5) (b5.next (by omega) w5 fun y hA _ hyR => ?_)
        rcases hA.2.2.1 with h | h
        · exact z5 y hA (by omega)
        · exact p5 y hyR (z4 y hA (by omega))
  exact key R 0 1 M2 (by omega) f2 b2
/-- a phase with its components -/
def PhC (M : Mm) (f : Nat → Int) (k : Nat) : Prop := Rep (M.2 401 k) (lay f (2 * k + 1)) ∧ ∃ S R rw a b, RS (lay f (2 * k + 1)) S R rw a b ∧ R ≤ 288 ∧ CR M k S R rw a b ∧ ∀ r q, inRun R rw a b q r → M.1 405 k r = lb (PK f k) q
theorem covV_P {g : Nat → Int64} {P : Int → Int → Bool} (hg : InG P) (hR : Rep g P) (x y : Int) : covV g x y = b2i (P x y) := by
  unfold covV
  by_cases h : 0 ≤ x ∧ x < 48 ∧ 0 ≤ y ∧ y < 48
  · rw [if_pos h]
    obtain ⟨a, rfl⟩ : ∃ n : Nat, x = n := ⟨x.toNat, by omega⟩
    obtain ⟨b, rfl⟩ : ∃ n : Nat, y = n := ⟨y.toNat, by omega⟩
    rw [Int.toNat_natCast]
    have h63 : bJ (g b) 63 = false := hR.hi (by omega) (by omega)
    rw [bit_j (by omega) h63, hR.bit (by omega) (by omega)]
    cases hp : P a b with
    | true => rw [if_pos rfl, if_neg (lcm_n o64)]; rfl
    | false => exact if_pos (lcm_e (if_neg (by decide)))
  · rw [if_neg h]
    cases hp : P x y with
    | false => rfl
    | true => exact absurd (hg x y hp) (by omega)
theorem c311 {f : Nat → Int} {k q : Nat} {M : Mm} {Q : Int → Mm → Prop} (h : PhC M f k) (hq : q < 2304) (hQ : Q (lb (PK f k) q) M) : E_311 k (q : Int) M Q := by
  obtain ⟨hRep, S, R, rw, a, b, hS, h288, ⟨C1, C2, C3⟩, hl⟩ := h
  have hg := lay_g f (2 * k + 1)
  refine s_311_0 ⟨by omega, fun d ed => ⟨by omega, fun d1 ed1 => ?_⟩⟩
  rw [tmod_p (by omega)] at ed
  rw [tdiv_p (by omega)] at ed1
  have hd : d = ((q % 48 : Nat) : Int) := by omega
  have hd1 : d1 = ((q / 48 : Nat) : Int) := by omega
  rw [covV_P hg hRep, b2i_0, b2i_n, hd, hd1]
  have hy : q / 48 < 48 := by omega
  refine ⟨fun hz x5 e5 => s_311_45 ⟨fun _ => ?_, fun g => ?_⟩, fun hz => ⟨by omega, fun x4 e4 x5 e5 => ?_⟩⟩
  · have : ¬ PK f k q := fun h => by
      have h : lay f (2 * k + 1) ((q % 48 : Nat) : Int) ((q / 48 : Nat) : Int) = true := h
      rw [hz] at h; cases h
    rw [lb_n this] at hQ
    exact hQ
  · rw [atN_i (by omega) (by omega), Int.toNat_natCast, C2 _ (by omega)] at e5
    omega
  · rw [atN_i (by omega) (by omega), show (((q / 48 : Nat) : Int) + 1).toNat = q / 48 + 1 by omega, C2 _ (by omega)] at e4
    rw [atN_i (by omega) (by omega), Int.toNat_natCast, C2 _ (by omega)] at e5
    obtain ⟨r, hr⟩ := hS.run hq hz
    obtain ⟨r1, r2, r3, r4⟩ := hr
    have hrr := hS.rw48 r1
    rw [r2] at hrr
    rw [e4, e5]
    have loop : ∀ (t s : Nat), s + t = r → S (q / 48) ≤ s → L_311_45 k (q : Int) ((q % 48 : Nat) : Int) ((q / 48 : Nat) : Int) (S (q / 48 + 1) : Int) (s : Int) M Q := by
      intro t
      induction t with
      | zero =>
        intro s hs hs2
        have e : s = r := by omega
        subst e
        refine s_311_45 ⟨fun g => by omega, fun _ => ?_⟩
        have h63 : bJ (M.2 403 k s) 63 = false := by rw [(C3 s r1).2, decide_eq_false]; have := (hS.rw48 r1).2.2.2.2.2.1; omega
        rw [atJ_i (by omega) (by omega), Int.toNat_natCast, bit_j (by omega) h63, (C3 s r1).2, decide_eq_true ⟨r3, r4⟩, atN_i (by omega) (by omega), Int.toNat_natCast, hl s q ⟨r1, r2, r3, r4⟩]
        exact ⟨fun g => absurd g o64, fun _ => hQ⟩
      | succ t ih =>
        intro s hs hs2
        have hsR : s < R := by omega
        have h63 : bJ (M.2 403 k s) 63 = false := by rw [(C3 s hsR).2, decide_eq_false]; have := (hS.rw48 hsR).2.2.2.2.2.1; omega
        have hrow := hS.in_row hsR hy hs2 (by omega)
        have hno : ¬ (a s ≤ q % 48 ∧ q % 48 < b s) := fun h => by
          have := hS.run1 (q := q) ⟨hsR, hrow, h.1, h.2⟩ ⟨r1, r2, r3, r4⟩
          omega
        refine s_311_45 ⟨fun g => by omega, fun _ => ?_⟩
        rw [atJ_i (by omega) (by omega), Int.toNat_natCast, bit_j (by omega) h63, (C3 s hsR).2, decide_eq_false hno]
        exact ⟨fun _ => ⟨by omega, ih (s + 1) (by omega) (by omega)⟩, fun g => absurd rfl g⟩
    exact loop (r - S (q / 48)) (S (q / 48)) (by omega) (Nat.le_refl _)
/-- the phase that is none -/
def NoC (M : Mm) : Prop := (∀ y, y < 48 → M.2 401 12 y = Int64.ofNat 0) ∧ ∀ y, y < 49 → M.1 402 12 y = 0
theorem covV_0 {g : Nat → Int64} (h : ∀ y, y < 48 → g y = Int64.ofNat 0) (x y : Int) : covV g x y = 0 := by
  have hg : InG (fun _ _ => false) := fun x y h => by cases h
  rw [covV_P hg (fun y hy x => by rw [h y hy, bJ_0, Bool.and_false])]
  rfl
theorem c311n {q : Nat} {M : Mm} {Q : Int → Mm → Prop} (h : NoC M) (hq : q < 2304) (hQ : Q (-1) M) : E_311 12 (q : Int) M Q := by
  refine s_311_0 ⟨by omega, fun d ed => ⟨by omega, fun d1 ed1 => ?_⟩⟩
  rw [tdiv_p (by omega)] at ed1
  rw [covV_0 h.1]
  refine ⟨fun _ x5 e5 => s_311_45 ⟨fun _ => hQ, fun g => ?_⟩, fun g => absurd rfl g⟩
  rw [atN_i (by omega) (by omega), h.2 _ (by omega)] at e5
  omega
theorem lowV_run {w : Int64} {a b : Nat} (hw : ∀ x, bJ w x = decide (a ≤ x ∧ x < b)) (hab : a < b) (hb : b ≤ 48) : lowV w = (a : Int) := by
  have h0 : w ≠ Int64.ofNat 0 := fun e => by
    have := hw a
    rw [e, bJ_0, decide_eq_true (by omega)] at this
    cases this
  obtain ⟨c, d, h1, h2, h3, h4, h5, h6, h7⟩ := run_b h0 (fun x hx => by rw [hw, decide_eq_false (by omega)])
  have e : c = a := by
    have k1 := h4 c (Nat.le_refl c) h1
    rw [hw] at k1
    have k2 := of_decide_eq_true k1
    rcases Nat.lt_or_ge a c with g | g
    · have k3 := h3 a g
      rw [hw, decide_eq_true (by omega)] at k3
      cases k3
    · omega
  rw [h7, e]
/-- the phase before phase k: k - 1, or the one that is none -/
def bef (k : Nat) : Nat := if k = 0 then 12 else k - 1
noncomputable def parK (f : Nat → Int) (k q : Nat) : Int := if k = 0 then -1 else lb (PK f (k - 1)) q
/-- the number of children of each component, those with first cells below q counted -/
def ChK (M M' : Mm) (f : Nat → Int) (k q : Nat) : Prop := (k = 0 → M'.1 408 12 = M.1 408 12) ∧ ∀ j, k = j + 1 → ∀ b, b < nc f j → M'.1 408 j b = chn f j b q
def T304 (k t j : Nat) : Prop := (t = 3 ∨ t = 402 ∨ t = 403 ∨ t = 404 ∨ t = 405 ∨ t = 406 ∨ t = 407 ∨ t = 408) ∧ j = k ∨ t = 408 ∧ j = bef k
theorem c310 {f : Nat → Int} {k : Nat} {S : Nat → Nat} {R r : Nat} {rw a b : Nat → Nat} {M : Mm} {Q : Mm → Prop} (hk : k < 12) (hS : RS (lay f (2 * k + 1)) S R rw a b) (h288 : R ≤ 288) (hC : CR M k S R rw a b) (hr : r < R) (hf : FK f k (fcR rw a r)) (hn : M.1 3 k 10 = cP (FK f k) (fcR rw a r)) (hb : k = 0 → NoC M) (hb2 : ∀ j, k = j + 1 → PhC M f j ∧ ∀ b, b < nc f j → M.1 408 j b = chn f j b (fcR rw a r))
    (hQ : ∀ M', Fx (fun t j => t = 407 ∧ j = k ∨ t = 408 ∧ j = bef k) M M' → M'.1 407 k = putN 72 (M.1 407 k) (cP (FK f k) (fcR rw a r) : Nat) (parK f k (fcR rw a r)) → ChK M M' f k (fcR rw a r + 1) → Q M') : E_310 k (bef k) (r : Int) M Q := by
  obtain ⟨C1, C2, C3⟩ := hC
  obtain ⟨r1, r2, r3, r4, r5, r6, -⟩ := hS.rw48 hr
  have hlow := lowV_run (C3 r hr).2 r5 r6
  have hq : fcR rw a r < 2304 := (hS.cell (hS.fin hr)).2
  refine s_310_0 fun x3 e3 => ?_
  rw [atJ_i (by omega) (by omega), Int.toNat_natCast, hlow] at e3
  rw [atN_i (by omega) (by omega), Int.toNat_natCast, (C3 r hr).1, e3]
  refine ⟨by omega, ?_⟩
  rw [show ((rw r : Nat) : Int) * 48 + (a r : Int) = ((fcR rw a r : Nat) : Int) by unfold fcR; omega]
  by_cases h0 : k = 0
  · have eb : bef k = 12 := if_pos h0
    have ep : parK f k (fcR rw a r) = -1 := if_pos h0
    rw [eb]
    refine c311n (hb h0) hq fun M1 e1 => ⟨?_, fun M2 e2 => ?_⟩
    · rw [atN_o (by omega)]; omega
    · have e8 : M2.1 408 12 = M.1 408 12 := by
        rw [e2, setA_at, e1, setA_ne (by omega)]
        funext z
        exact putN_big (by omega)
      rw [hn] at e1
      refine hQ M2 ?_ ?_ ⟨fun _ => e8, fun j hj => by omega⟩
      · rw [e2, e1]
        exact (Fx.setA (Or.inl ⟨rfl, rfl⟩)).tr (Fx.setA (Or.inr ⟨rfl, eb.symm⟩))
      · rw [e2, setA_ne (by omega), e1, setA_at, ep]
  · obtain ⟨j, hj⟩ : ∃ j, k = j + 1 := ⟨k - 1, by omega⟩
    have eb : bef k = j := by unfold bef; rw [if_neg h0]; omega
    have ep : parK f k (fcR rw a r) = lb (PK f j) (fcR rw a r) := by unfold parK; rw [if_neg h0, show k - 1 = j by omega]
    obtain ⟨p1, p2⟩ := hb2 j hj
    rw [eb]
    have hpk : PK f j (fcR rw a r) := by
      have := hf.1
      rw [hj] at this
      exact pk_mono this
    have b0 := lb_0 (P := PK f j) hpk
    have b1 : lb (PK f j) (fcR rw a r) < (nc f j : Int) := lb_lt hq
    have b2 : nc f j ≤ 72 := nc_le f j
    refine c311 p1 hq fun M1 e1 => ?_
    rw [hn] at e1
    obtain ⟨c, hc⟩ : ∃ c : Nat, lb (PK f j) (fcR rw a r) = c := ⟨(lb (PK f j) (fcR rw a r)).toNat, by omega⟩
    have a8 : M1.1 408 j = M.1 408 j := by rw [e1, setA_ne (by omega)]
    have hch : chn f j c (fcR rw a r) ≤ 2304 := Nat.le_trans (cP_le _ _) (by omega)
    rw [hc] at b1
    rw [hc, a8, atN_i (by omega) (by omega), Int.toNat_natCast, p2 c (by omega)]
    refine ⟨by omega, fun M2 e2 => hQ M2 ?_ ?_ ⟨fun h => absurd h h0, fun j' hj' b' hb' => ?_⟩⟩
    · rw [e2, e1]
      exact (Fx.setA (Or.inl ⟨rfl, rfl⟩)).tr (Fx.setA (Or.inr ⟨rfl, eb.symm⟩))
    · rw [e2, setA_ne (by omega), e1, setA_at, ep]
    · have ej : j' = j := by omega
      subst ej
      rw [e2, setA_at]
      by_cases e : b' = c
      · subst e
        rw [putN_at (by omega) rfl]
        unfold chn
        rw [cP_y ⟨by rw [← hj]; exact hf, hc⟩]
        rfl
      · rw [putN_ne (by omega), p2 b' hb']
        unfold chn
        rw [cP_n (fun h => e (by have := h.2; omega))]
theorem c304 {f : Nat → Int} {k : Nat} {M : Mm} {Q : Mm → Prop} (hk : k < 12) (hRep : Rep (M.2 401 k) (lay f (2 * k + 1))) (hb : k = 0 → NoC M) (hb2 : ∀ j, k = j + 1 → PhC M f j ∧ ∀ b, b < 72 → M.1 408 j b = 0)
    (hQ : ∀ M', Fx (T304 k) M M' → PhC M' f k → M'.1 3 k 10 = nc f k → (∀ q, q < 2304 → FK f k q → M'.1 407 k (cP (FK f k) q) = parK f k q) → (∀ b, b < 72 → M'.1 408 k b = 0) → ChK M M' f k 2304 → E_201 k k M' Q) : E_304 k (bef k) M Q := by
  have hg := lay_g f (2 * k + 1)
  refine s_304_0 (c305 hRep fun M1 S R rw a b f1 hS hC h288 h405 h3 => fun M2 e2 M3 e3 => ?_)
  have hbef : bef k ≠ k := by unfold bef; split <;> omega
  have f3 : Fx (T304 k) M M3 := by
    refine (f1.up fun t j g => Or.inl ⟨by rcases g.1 with h | h | h | h | h <;> simp [h], g.2⟩).tr ?_
    rw [e3, e2]
    exact (Fx.setI (Or.inl ⟨by simp, rfl⟩)).tr (Fx.setA (Or.inl ⟨by simp, rfl⟩))
  have C3 : CR M3 k S R rw a b := by
    obtain ⟨c1, c2, c3⟩ := hC
    refine ⟨by rw [e3, setA_ne (by omega), e2, setI_at, ups_ne (by omega), c1], fun y hy => by rw [e3, setA_ne (by omega), e2, setI_ne (by omega)]; exact c2 y hy, fun r hr => ?_⟩
    rw [e3, setA_ne (by omega), setA_2, e2, setI_ne (by omega), setI_2]
    exact c3 r hr
  have n3 : M3.1 3 k 10 = 0 := by rw [e3, setA_ne (by omega), e2, setI_at, ups_at]
  have l3 : ∀ r, r < R → M3.1 405 k r = -1 := fun r hr => by rw [e3, setA_ne (by omega), e2, setI_ne (by omega)]; exact h405 r hr
  have z3 : ∀ b, b < 72 → M3.1 408 k b = 0 := fun b hb => by
    rw [e3, setA_at]
    unfold upTo
    rw [if_pos hb]
  have b3 : M3.1 408 (bef k) = M.1 408 (bef k) := by rw [e3, setA_ne (by omega), e2, setI_ne (by omega), (f1 408 (bef k) (by simp [T305])).1]
  obtain ⟨cn1, cn2⟩ := hS.cnt hg
  -- what stays of the phase before
  have keep : ∀ M', Fx (T304 k) M M' → (k = 0 → NoC M') ∧ ∀ j, k = j + 1 → PhC M' f j := by
    intro M' g
    refine ⟨fun h0 => ?_, fun j hj => ?_⟩
    · obtain ⟨q1, q2⟩ := hb h0
      exact ⟨fun y hy => by rw [(g 401 12 (by simp [T304])).2]; exact q1 y hy, fun y hy => by rw [(g 402 12 (by simp [T304]; omega)).1]; exact q2 y hy⟩
    · obtain ⟨q1, S', R', rw', a', b', q2, q3, ⟨q4, q5, q6⟩, q7⟩ := (hb2 j hj).1
      have hne : j ≠ k := by omega
      refine ⟨by rw [(g 401 j (by simp [T304])).2]; exact q1, S', R', rw', a', b', q2, q3, ⟨?_, fun y hy => ?_, fun r hr => ?_⟩, fun r q hr => ?_⟩
      · rw [(g 3 j (by simp [T304, hne])).1, q4]
      · rw [(g 402 j (by simp [T304, hne])).1]; exact q5 y hy
      · rw [(g 404 j (by simp [T304, hne])).1, (g 403 j (by simp [T304, hne])).2]; exact q6 r hr
      · rw [(g 405 j (by simp [T304, hne])).1]; exact q7 r q hr
  have key : ∀ (s r : Nat) (M' : Mm), r + s = R → Fx (T304 k) M M' → CR M' k S R rw a b → M'.1 3 k 10 = cP (Fi (fun r => r < R) (AR R rw a b)) r → Otr R (fun r => r < R) (AR R rw a b) r (M'.1 405 k) → (∀ b, b < 72 → M'.1 408 k b = 0) → (∀ r', r' < r → Fi (fun r => r < R) (AR R rw a b) r' → M'.1 407 k (cP (FK f k) (fcR rw a r')) = parK f k (fcR rw a r')) → ((k = 0 → M'.1 408 12 = M.1 408 12) ∧ ∀ j, k = j + 1 → ∀ b, b < nc f j → M'.1 408 j b = chn f j b (if r < R then fcR rw a r else 2304)) → L_304_19 k (bef k) (r : Int) M' Q := by
    intro s
    induction s with
    | zero =>
      intro r M4 hr g1 g2 g3 g4 g5 g6 g7
      have e : r = R := by omega
      subst e
      refine s_304_19 ⟨fun _ => ?_, fun g => by have := g2.1; omega⟩
      have hl := Otr.fin AR_sy g4
      obtain ⟨k1, k2⟩ := hS.lab hg hl
      refine hQ M4 g1 ⟨by rw [(g1 401 k (by simp [T304])).2]; exact hRep, S, r, rw, a, b, hS, h288, g2, fun r' q hr' => k2 q r' hr'⟩ (by rw [g3, ← cn2]; rfl) (fun q hq hf => ?_) g5 ⟨g7.1, fun j hj b hb => by rw [g7.2 j hj b hb, if_neg (Nat.lt_irrefl _)]⟩
      obtain ⟨r', h1, h2, h3⟩ := (hS.fi hg hq).mp hf
      rw [h2]
      exact g6 r' h1 h3
    | succ s ih =>
      intro r M4 hr g1 g2 g3 g4 g5 g6 g7
      have hrR : r < R := by omega
      have l4 : atN 288 (M4.1 405 k) (r : Int) = M4.1 405 k r := by rw [atN_i (by omega) (by omega), Int.toNat_natCast]
      have hfc : fcR rw a r < 2304 := (hS.cell (hS.fin hrR)).2
      -- between two runs there is no first cell but the lower run's
      have gap : ∀ (p : Nat → Prop), (∀ x, p x → FK f k x) → cP p (if r + 1 < R then fcR rw a (r + 1) else 2304) = cP p (fcR rw a r + 1) := by
        intro p hp
        refine cP_gap ?_ fun x hx1 hx2 hpx => ?_
        · split
          · next h => have := hS.fcm (show r < r + 1 by omega) h; omega
          · omega
        · have hx : x < 2304 := by
            split at hx2
            · next h => have := (hS.cell (hS.fin h)).2; omega
            · exact hx2
          obtain ⟨t, t1, t2, -⟩ := (hS.fi hg hx).mp (hp x hpx)
          have h1 : r < t := by
            rcases Nat.lt_trichotomy r t with q | q | q
            · exact q
            · subst q; omega
            · have := hS.fcm q hrR; omega
          split at hx2
          · next h =>
            by_cases e : t = r + 1
            · subst e; omega
            · have := hS.fcm (show r + 1 < t by omega) t1; omega
          · next h => omega
      refine s_304_19 ⟨fun g => by have := g2.1; omega, fun _ => ?_⟩
      rw [l4]
      refine ⟨fun hpos => ⟨by omega, ?_⟩, fun hneg => ?_⟩
      · obtain ⟨k1, k2⟩ := Otr.nx hrR g4 (Or.inr hpos)
        have k3 : ¬ FK f k (fcR rw a r) := fun h => by
          obtain ⟨t, t1, t2, t3⟩ := (hS.fi hg hfc).mp h
          have : r = t := by
            rcases Nat.lt_trichotomy r t with q | q | q
            · have := hS.fcm q t1; omega
            · exact q
            · have := hS.fcm q hrR; omega
          subst this
          exact k2 t3
        refine ih (r + 1) M4 (by omega) g1 g2 (by rw [g3, cP_n k2]) k1 g5 (fun r' hr' hf => g6 r' (by
          rcases Nat.lt_or_ge r' r with q | q
          · exact q
          · have : r' = r := by omega
            subst this; exact absurd hf k2) hf) ⟨g7.1, fun j hj b hb => ?_⟩
        rw [g7.2 j hj b hb, if_pos hrR]
        unfold chn
        rw [gap _ (fun x hx => by rw [hj]; exact hx.1), cP_n (fun h => k3 (by rw [hj]; exact h.1))]
      · obtain ⟨hf, hN⟩ := Otr.fi AR_sy hrR g4 hrR hneg
        have hfk : FK f k (fcR rw a r) := (hS.fi hg hfc).mpr ⟨r, hrR, rfl, hf⟩
        have hnn : cP (Fi (fun r => r < R) (AR R rw a b)) r = cP (FK f k) (fcR rw a r) := (cn1 r hrR).symm
        have hn72 : cP (FK f k) (fcR rw a r) < 72 := Nat.lt_of_lt_of_le (cP_lt hfc hfk) (nc_le f k)
        refine c308 hS h288 g2 g3 hrR hneg hN fun M5 f5 k1 k2 => ?_
        have f15 : Fx (T304 k) M M5 := g1.tr (f5.up fun t j g => Or.inl ⟨by rcases g.1 with h | h <;> simp [h], g.2⟩)
        have C5 : CR M5 k S R rw a b := by
          obtain ⟨c1, c2, c3⟩ := g2
          refine ⟨by rw [(f5 3 k (by simp [T309])).1, c1], fun y hy => by rw [(f5 402 k (by simp [T309])).1]; exact c2 y hy, fun r hr => ?_⟩
          rw [(f5 404 k (by simp [T309])).1, (f5 403 k (by simp [T309])).2]
          exact c3 r hr
        have n5 : M5.1 3 k 10 = cP (FK f k) (fcR rw a r) := by rw [(f5 3 k (by simp [T309])).1, g3, hnn]
        have w5 : ∀ j, M5.1 408 j = M4.1 408 j := fun j => (f5 408 j (by simp [T309])).1
        refine c310 hk hS h288 C5 hrR hfk n5 (keep M5 f15).1 (fun j hj => ⟨(keep M5 f15).2 j hj, fun b hb => by rw [w5, g7.2 j hj b hb, if_pos hrR]⟩) fun M6 f6 p6 ch6 => ?_
        have f16 : Fx (T304 k) M M6 := f15.tr (f6.up fun t j g => by rcases g with h | h <;> simp [T304, h])
        have n6 : M6.1 3 k = M5.1 3 k := (f6 3 k (by simp)).1
        rw [n6, n5]
        refine ⟨by omega, fun M7 e7 => ⟨by omega, ?_⟩⟩
        have o7 : ∀ t j, t ≠ 3 → M7.1 t j = M6.1 t j ∧ M7.2 t j = M6.2 t j := fun t j h => ⟨by rw [e7, setI_ne (by omega)], by rw [e7, setI_2]⟩
        have n7 : M7.1 3 k = ups (M6.1 3 k) 10 ((cP (FK f k) (fcR rw a r) : Int) + 1) := by rw [e7, setI_at]
        refine ih (r + 1) M7 (by omega) (f16.tr (by rw [e7]; exact Fx.setI (Or.inl ⟨by simp, rfl⟩))) ?_ ?_ ?_ (fun b hb => ?_) (fun r' hr' hf' => ?_) ⟨fun h0 => ?_, fun j hj b hb => ?_⟩
        · obtain ⟨c1, c2, c3⟩ := C5
          refine ⟨by rw [n7, ups_ne (by omega), n6, c1], fun y hy => by rw [(o7 402 k (by omega)).1, (f6 402 k (by simp)).1]; exact c2 y hy, fun r hr => ?_⟩
          rw [(o7 404 k (by omega)).1, (f6 404 k (by simp)).1, (o7 403 k (by omega)).2, (f6 403 k (by simp)).2]
          exact c3 r hr
        · rw [n7, ups_at, cP_y hf, hnn]; rfl
        · rw [(o7 405 k (by omega)).1, (f6 405 k (by simp)).1]
          refine Otr.up AR_sy g4 hf (fun x hx hc => ?_) (fun x hx hc => k2 x hx hc)
          rw [k1 x hx hc]
        · rw [(o7 408 k (by omega)).1, (f6 408 k (by simp [hbef.symm])).1, w5]; exact g5 b hb
        · rw [(o7 407 k (by omega)).1, p6]
          by_cases e : r' = r
          · subst e
            rw [putN_at (by omega) rfl]
          · have hr'R : r' < R := by omega
            have hf2 : FK f k (fcR rw a r') := (hS.fi hg (hS.cell (hS.fin hr'R)).2).mpr ⟨r', hr'R, rfl, hf'⟩
            have := cP_lt (p := FK f k) (hS.fcm (show r' < r by omega) hrR) hf2
            rw [putN_ne (by omega), (f5 407 k (by simp [T309])).1]
            exact g6 r' (by omega) hf'
        · rw [(o7 408 12 (by omega)).1, ch6.1 h0, w5]; exact g7.1 h0
        · rw [(o7 408 j (by omega)).1, ch6.2 j hj b hb]
          unfold chn
          rw [gap _ (fun x hx => by rw [hj]; exact hx.1)]
  refine key R 0 M3 (by omega) f3 C3 (by rw [n3]; rfl) (Otr.z fun x hx => by rw [l3 x hx]; omega) z3 (fun r' h => absurd h (Nat.not_lt_zero r')) ⟨fun h0 => ?_, fun j hj b hb' => ?_⟩
  · have : bef k = 12 := if_pos h0
    rw [this] at b3
    exact b3
  · have eb : bef k = j := by unfold bef; rw [if_neg (by omega)]; omega
    rw [eb] at b3
    rw [b3, (hb2 j hj).2 b (Nat.lt_of_lt_of_le hb' (nc_le f j))]
    unfold chn
    have : cP (fun x => FK f (j + 1) x ∧ lb (PK f j) x = (b : Int)) (if 0 < R then fcR rw a 0 else 2304) = cP (fun x => FK f (j + 1) x ∧ lb (PK f j) x = (b : Int)) 0 := by
      refine cP_gap (Nat.zero_le _) fun x _ hx hp => ?_
      have hx2 : x < 2304 := by
        split at hx
        · next h => have := (hS.cell (hS.fin h)).2; omega
        · exact hx
      obtain ⟨t, t1, t2, -⟩ := (hS.fi hg hx2).mp (by have := hp.1; rw [← hj] at this; exact this)
      split at hx
      · next h =>
        by_cases e : t = 0
        · subst e; omega
        · have := hS.fcm (show 0 < t by omega) t1; omega
      · next h => omega
    rw [this]
    rfl

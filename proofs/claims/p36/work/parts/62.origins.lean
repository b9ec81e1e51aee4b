/-! origins of sides -/
def Sok (P : Int → Int → Bool) : Prop := Vok P ∧ NoD P ∧ vN P ≤ 78 ∧ vE P ≤ 312 ∧ ∀ i, i < vE P → Dir (sD P i) ∧ (0 ≤ sA P i ∧ sA P i ≤ 48) ∧ (0 ≤ sL P i ∧ sL P i ≤ 48) ∧ 0 ≤ sH P i ∧ sH P i ≤ 48
theorem Sok.of {f : Nat → Int} {k : Nat} (h : Vok (lay f (2 * k + 1))) : Sok (lay f (2 * k + 1)) := ⟨h, pk_nod f k, h.le.1, h.le.2, fun _ hi => h.side hi⟩
noncomputable def xD (P : Int → Int → Bool) (e : Nat) : Int := eD P (vX P) (vY P) e
noncomputable def xL (P : Int → Int → Bool) (e : Nat) : Int := eL P (vX P) (vY P) e
noncomputable def xA (P : Int → Int → Bool) (e : Nat) : Int := eLo P (vX P) (vY P) (vL P) e
noncomputable def xB (P : Int → Int → Bool) (e : Nat) : Int := eHi P (vX P) (vY P) (vL P) e
/-- the edges are sound -/
def EG (P : Int → Int → Bool) : Prop := EdG P (vE P) (vX P) (vY P) (vL P)
theorem EG.of {f : Nat → Int} (h : Vok (lay f 1)) : EG (lay f 1) := EdG.of h.1.1 h.2
def Edc (M : Mm) (P : Int → Int → Bool) : Prop := EdC M (vE P) P (vX P) (vY P) (vL P)
def inS (d r : Int) : Int := if upV d = 0 then r else -r
noncomputable def oQ (P0 P : Int → Int → Bool) (r : Int) (i e : Nat) : Bool := ovE P0 (vX P0) (vY P0) (vL P0) (sD P i) (2 * (sA P i + inS (sD P i) r)) (2 * (sL P i - r)) (2 * (sH P i + r)) e
theorem oQ_iff {P0 P : Int → Int → Bool} {r : Int} {i e : Nat} : oQ P0 P r i e = true ↔ xD P0 e = sD P i ∧ 4 * xL P0 e = sA P i + inS (sD P i) r ∧ sL P i - r < 4 * xB P0 e ∧ 4 * xA P0 e < sH P i + r := by
  have : oQ P0 P r i e = decide (xD P0 e = sD P i ∧ 8 * xL P0 e = 2 * (sA P i + inS (sD P i) r) ∧ 2 * (sL P i - r) < 8 * xB P0 e ∧ 8 * xA P0 e < 2 * (sH P i + r)) := rfl
  rw [this, decide_eq_true_iff]
  constructor
  · rintro ⟨a, b, c, d⟩; exact ⟨a, by omega, by omega, by omega⟩
  · rintro ⟨a, b, c, d⟩; exact ⟨a, by omega, by omega, by omega⟩
theorem phV_in {N : Int} {p : Nat} (h : (p : Int) < N) (h12 : p < 12) : phV N (p : Int) = p := by
  unfold phV
  rw [if_pos ⟨by omega, h, by omega⟩]
  exact Int.toNat_natCast p
theorem Cls.at {M : Mm} {k : Nat} {P : Int → Int → Bool} (h : Cls M k P) (g : Sok P) {i : Nat} (hi : i < vE P) : atN 340 (M.1 305 k) (i : Int) = sD P i ∧ atN 340 (M.1 306 k) (i : Int) = sA P i ∧ atN 340 (M.1 307 k) (i : Int) = sL P i ∧ atN 340 (M.1 308 k) (i : Int) = sH P i := by
  obtain ⟨-, a, b, c, d⟩ := h.2.1 i hi
  have h3 := g.2.2.2.1
  rw [atN_i (by omega) (by omega), atN_i (by omega) (by omega), atN_i (by omega) (by omega), atN_i (by omega) (by omega), Int.toNat_natCast]
  exact ⟨a, b, c, d⟩
theorem c523 {p i : Nat} {w N : Int} {P0 P : Int → Int → Bool} {M : Mm} {Q : Int → Mm → Prop} (hN : M.1 5 0 11 = N) (hp : (p : Int) < N) (h12 : p < 12) (hC : Cls M p P) (hP : Sok P) (hg : EG P0) (hE : Edc M P0) (hi : i < vE P)
    (hQ : Q (whV w (cntB (oQ P0 P (2 * p + 1) i) (vE P0)) (fsE (oQ P0 P (2 * p + 1) i) (vE P0)) (lsE (oQ P0 P (2 * p + 1) i) (vE P0))) M) : E_523 (p : Int) (i : Int) w M Q := by
  obtain ⟨a1, a2, a3, a4⟩ := hC.at hP hi
  obtain ⟨b1, b2, b3, b4⟩ := hP.2.2.2.2 i hi
  refine s_523_0 ?_
  rw [hN, phV_in hp h12, a1, a2, a3, a4]
  refine ⟨⟨by omega, by omega⟩, fun x5 e5 x6 e6 => ⟨fun _ => by omega, fun b eb => ?_⟩⟩
  have eb' : b = inS (sD P i) (2 * p + 1) := by rw [eb, e6, e5]; rfl
  have hb : -25 ≤ b ∧ b ≤ 25 := by rw [eb]; split <;> omega
  refine ⟨by omega, fun x7 e7 => ⟨by omega, ⟨by omega, by omega⟩, ⟨by omega, by omega⟩, ?_⟩⟩
  rw [e7, eb', e5, e6]
  rw [eb'] at hb
  exact c9 hg hE b1 (by omega) hQ
/-- sides with more than one origin, of the first n -/
noncomputable def mgN (P0 P : Int → Int → Bool) (r : Int) (n : Nat) : Nat := cntB (fun i => decide (1 < cntB (oQ P0 P r i) (vE P0))) n
theorem c525 {p : Nat} {N : Int} {P0 P : Int → Int → Bool} {M : Mm} {Q : Int → Mm → Prop} (hN : M.1 5 0 11 = N) (hp : (p : Int) < N) (h12 : p < 12) (hC : Cls M p P) (hP : Sok P) (hg : EG P0) (hE : Edc M P0)
    (hQ : Q (mgN P0 P (2 * p + 1) (vE P)) M) : E_525 (p : Int) M Q := by
  have h13 : M.1 2 p 13 = vE P := hC.2.2.2.2.2.1
  have hle := hP.2.2.2.1
  refine s_525_0 fun x2 e2 => ?_
  rw [hN, phV_in hp h12, h13] at e2
  have key : ∀ (s i : Nat), i + s = vE P → L_525_17 (p : Int) x2 (mgN P0 P (2 * p + 1) i : Int) (i : Int) M Q := by
    intro s
    induction s with
    | zero =>
      intro i hi
      refine s_525_17 ⟨fun _ => ?_, fun h => by omega⟩
      rw [show i = vE P by omega]; exact hQ
    | succ s ih =>
      intro i hi
      have ih := ih (i + 1) (by omega)
      have hb : mgN P0 P (2 * p + 1) i ≤ i := cntB_le _ _
      refine s_525_17 ⟨fun h => by omega, fun _ => c523 hN hp h12 hC hP hg hE (by omega) ?_⟩
      unfold whV
      rw [if_pos rfl]
      refine ⟨fun _ => by omega, fun y ey => ⟨by omega, ?_⟩⟩
      have ey' : y = (mgN P0 P (2 * p + 1) (i + 1) : Int) := by
        rw [ey]
        by_cases h : 1 < cntB (oQ P0 P (2 * p + 1) i) (vE P0)
        · rw [if_neg (by omega), show mgN P0 P (2 * p + 1) (i + 1) = mgN P0 P (2 * p + 1) i + 1 from cntB_y (decide_eq_true h)]; rfl
        · rw [if_pos (by omega), show mgN P0 P (2 * p + 1) (i + 1) = mgN P0 P (2 * p + 1) i from cntB_n (decide_eq_false h)]
      rw [ey']
      exact ih
  exact key (vE P) 0 (by omega)
/-- the sides that an edge gives a phase -/
noncomputable def drN (P0 P : Int → Int → Bool) (r : Int) (e n : Nat) : Nat := cntB (fun i => oQ P0 P r i e) n
theorem c522 {p e : Nat} {N : Int} {P0 P : Int → Int → Bool} {M : Mm} {Q : Int → Mm → Prop} (hN : M.1 5 0 11 = N) (hp : (p : Int) < N) (h12 : p < 12) (hC : Cls M p P) (hP : Sok P) (hg : EG P0) (hE : Edc M P0) (he : e < vE P0)
    (hQ : Q (if 0 < drN P0 P (2 * p + 1) e (vE P) then 1 else 0) M) : E_522 (e : Int) (p : Int) M Q := by
  have h13 : M.1 2 p 13 = vE P := hC.2.2.2.2.2.1
  have hle := hP.2.2.2.1
  obtain ⟨a1, a2, a3, a4⟩ := hE.1.at hg he
  have b := hg.2 e he
  have a1 : atN 340 (M.1 100 0) (e : Int) = xD P0 e := a1
  have a2 : atN 340 (M.1 101 0) (e : Int) = xL P0 e := a2
  have a3 : atN 340 (M.1 102 0) (e : Int) = xA P0 e := a3
  have a4 : atN 340 (M.1 103 0) (e : Int) = xB P0 e := a4
  have b : Dir (xD P0 e) ∧ (0 ≤ xL P0 e ∧ xL P0 e ≤ 12) ∧ (0 ≤ xA P0 e ∧ xA P0 e ≤ 12) ∧ 0 ≤ xB P0 e ∧ xB P0 e ≤ 12 := b
  refine s_522_0 ?_
  rw [a1, a2, hN, phV_in hp h12]
  refine ⟨⟨by omega, by omega⟩, fun x4 e4 x5 e5 => ⟨by omega, fun _ => by omega, fun b' eb => ?_⟩⟩
  have hb : -25 ≤ b' ∧ b' ≤ 25 := by rw [eb]; split <;> omega
  have eb' : b' = - inS (xD P0 e) (2 * p + 1) := by
    rw [eb, e5, e4]; unfold inS; split <;> omega
  refine ⟨by omega, fun x6 e6 => ?_⟩
  have key : ∀ (s i : Nat), i + s = vE P → drN P0 P (2 * p + 1) e i = 0 → L_522_58 (e : Int) (p : Int) p x4 x5 x6 (i : Int) M Q := by
    intro s
    induction s with
    | zero =>
      intro i hi h0
      refine s_522_58 ⟨fun _ => ?_, fun h => by omega⟩
      rw [show vE P = i by omega, h0] at hQ
      exact hQ
    | succ s ih =>
      intro i hi h0
      have hiP : i < vE P := by omega
      have ih := ih (i + 1) (by omega)
      obtain ⟨q1, q2, q3, q4⟩ := hC.at hP hiP
      obtain ⟨r1, r2, r3, r4⟩ := hP.2.2.2.2 i hiP
      have no : ¬ (oQ P0 P (2 * p + 1) i e = true) → L_522_58 (e : Int) (p : Int) p x4 x5 x6 ((i : Int) + 1) M Q := fun h => ih (by
        rw [show drN P0 P (2 * p + 1) e (i + 1) = drN P0 P (2 * p + 1) e i from cntB_n (by simpa using h)]; exact h0)
      have io := oQ_iff (P0 := P0) (P := P) (r := 2 * p + 1) (i := i) (e := e)
      refine s_522_58 ⟨fun h => by omega, fun _ => ?_⟩
      rw [q1, q2, q3, q4, a3, a4]
      refine ⟨⟨by omega, by omega⟩, fun x8 e8 => ⟨⟨by omega, by omega⟩, fun x9 e9 => ⟨fun h => ⟨by omega, no fun g => h ?_⟩, fun h1 => ⟨fun h => ⟨by omega, no fun g => h ?_⟩, fun h2 => ⟨⟨by unfold inR; omega, by unfold inR; omega⟩, fun ho => ⟨by omega, no fun g => ?_⟩, fun ho => ?_⟩⟩⟩⟩⟩
      · have := (io.mp g).1; omega
      · have g1 := (io.mp g).1
        have g2 := (io.mp g).2.1
        rw [← g1] at g2
        omega
      · obtain ⟨-, -, g3, g4⟩ := io.mp g
        unfold ovV at ho
        rw [a3, a4, if_pos (by omega), if_pos (by omega)] at ho
        cases ho
      · unfold ovV at ho
        rw [a3, a4] at ho
        have hyes : oQ P0 P (2 * p + 1) i e = true := by
          refine io.mpr ⟨by omega, ?_, ?_⟩
          · rw [h1, e5]; omega
          · split at ho
            · split at ho
              · exact ⟨by omega, by omega⟩
              · exact absurd rfl ho
            · exact absurd rfl ho
        have : 0 < drN P0 P (2 * p + 1) e (vE P) := cntB_one (b := fun i => oQ P0 P (2 * p + 1) i e) hiP hyes
        rw [if_pos this] at hQ
        exact hQ
  exact key (vE P) 0 (by omega) rfl

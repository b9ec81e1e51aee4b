/-! origins by the reference; extinction -/
/-- how many of the first n hold, from the first on -/
def prf (b : Nat → Bool) : Nat → Nat
  | 0 => 0
  | n + 1 => if prf b n = n ∧ b n = true then n + 1 else prf b n
theorem prf_le (b : Nat → Bool) : ∀ n, prf b n ≤ n
  | 0 => Nat.le_refl 0
  | n + 1 => by
    show (if prf b n = n ∧ b n = true then n + 1 else prf b n) ≤ n + 1
    have := prf_le b n
    split <;> omega
theorem prf_s {b : Nat → Bool} {n : Nat} (h : prf b n = n) (hb : b n = true) : prf b (n + 1) = n + 1 := if_pos ⟨h, hb⟩
theorem prf_e {b : Nat → Bool} {n : Nat} (h : prf b n = n) (hb : b n = false) : ∀ s, prf b (n + s) = n
  | 0 => h
  | s + 1 => by
    have ih := prf_e h hb s
    show (if prf b (n + s) = n + s ∧ b (n + s) = true then n + s + 1 else prf b (n + s)) = n
    rw [if_neg ?_]
    · exact ih
    · rintro ⟨h1, h2⟩
      have : s = 0 := by omega
      subst this
      rw [show n + 0 = n from rfl, hb] at h2
      cases h2
/-- the phases that an edge drives -/
noncomputable def drB (f : Nat → Int) (e p : Nat) : Bool := decide (0 < drN (lay f 1) (lay f (2 * p + 1)) (2 * p + 1) e (vE (lay f (2 * p + 1))))
theorem c521 {e N : Nat} {f : Nat → Int} {M : Mm} {Q : Int → Mm → Prop} (hN : M.1 5 0 11 = N) (h12 : N ≤ 12) (hC : ∀ p, p < N → Cls M p (lay f (2 * p + 1))) (hg : EG (lay f 1)) (hE : Edc M (lay f 1)) (he : e < vE (lay f 1)) (hQ : Q (prf (drB f e) N) M) : E_521 (e : Int) M Q := by
  refine s_521_0 ?_
  have key : ∀ (s p : Nat), p + s = N → prf (drB f e) p = p → L_521_2 (e : Int) (p : Int) M Q := by
    intro s
    induction s with
    | zero =>
      intro p hp h
      refine s_521_2 ⟨fun _ => ?_, fun h => by omega⟩
      rw [show N = p by omega, h] at hQ
      rw [hN, show N = p by omega]
      exact hQ
    | succ s ih =>
      intro p hp h
      refine s_521_2 ⟨fun h => by omega, fun _ => c522 hN (by omega) (by omega) (hC p (by omega)) (Sok.of (hC p (by omega)).ok) hg hE he ⟨fun hr => ⟨by omega, ih (p + 1) (by omega) (prf_s h ?_)⟩, fun hr => ?_⟩⟩
      · refine decide_eq_true (Nat.pos_of_ne_zero fun h0 => hr ?_)
        rw [h0]; rfl
      · have : drB f e p = false := decide_eq_false fun h0 => by rw [if_pos h0] at hr; cases hr
        have := prf_e h this (s + 1)
        rw [hp] at this
        rw [this] at hQ
        exact hQ
  exact key N 0 (by omega) rfl
/-- a frame that leaves the reference's lists -/
def R10 (S : Nat → Prop) (M M' : Mm) : Prop := Fx (fun t j => t = 10 ∧ j = 0) M M' ∧ ∀ q, ¬ S q → M'.1 10 0 q = M.1 10 0 q
theorem R10.rf {S : Nat → Prop} {M : Mm} : R10 S M M := ⟨Fx.rf, fun _ _ => rfl⟩
theorem R10.tr {S : Nat → Prop} {M M1 M2 : Mm} (h : R10 S M M1) (g : R10 S M1 M2) : R10 S M M2 := ⟨h.1.tr g.1, fun q hq => (g.2 q hq).trans (h.2 q hq)⟩
theorem R10.up {S S' : Nat → Prop} {M M1 : Mm} (h : R10 S M M1) (k : ∀ q, S q → S' q) : R10 S' M M1 := ⟨h.1, fun q hq => h.2 q fun g => hq (k q g)⟩
theorem R10.set {S : Nat → Prop} {M : Mm} {k : Nat} {v : Int} (h : S k) : R10 S M (setI M 10 0 k v) := ⟨Fx.setI ⟨rfl, rfl⟩, fun q hq => by rw [setI_at, ups_ne (fun e => hq (by rw [e]; exact h))]⟩
def S30 (q : Nat) : Prop := 30 ≤ q ∧ q ≤ 33
def S41 (q : Nat) : Prop := (30 ≤ q ∧ q ≤ 33) ∨ (41 ≤ q ∧ q ≤ 43)
theorem Mds.fx {M M' : Mm} {p : Nat} {P : Int → Int → Bool} (h : Mds M p P) (e : M'.1 1124 0 = M.1 1124 0 ∧ M'.1 1125 0 = M.1 1125 0 ∧ M'.1 1126 0 = M.1 1126 0 ∧ M'.1 1127 0 = M.1 1127 0 ∧ M'.1 1128 0 = M.1 1128 0) : Mds M' p P := by
  refine ⟨h.1, h.2.1.fx ⟨e.1, e.2.1, e.2.2.2.1, e.2.2.2.2⟩, fun c hc => ?_⟩
  rw [e.2.2.1]; exact h.2.2 c hc
theorem Mds.r10 {S : Nat → Prop} {M M' : Mm} {p : Nat} {P : Int → Int → Bool} (h : Mds M p P) (r : R10 S M M') : Mds M' p P :=
  h.fx ⟨(r.1 1124 0 (by omega)).1, (r.1 1125 0 (by omega)).1, (r.1 1126 0 (by omega)).1, (r.1 1127 0 (by omega)).1, (r.1 1128 0 (by omega)).1⟩
theorem Edm.r10 {S : Nat → Prop} {M M' : Mm} {P : Int → Int → Bool} (h : Edm M P) (r : R10 S M M') (hs : ¬ S 34) : Edm M' P := by
  refine ⟨by rw [r.2 34 hs]; exact h.1, fun i hi => ?_⟩
  rw [(r.1 1135 0 (by omega)).1, (r.1 1136 0 (by omega)).1, (r.1 1137 0 (by omega)).1, (r.1 1138 0 (by omega)).1]
  exact h.2 i hi
/-- a side lies in the reference's fields -/
def Sid (M : Mm) (P : Int → Int → Bool) (i : Nat) : Prop := M.1 10 0 30 = sD P i ∧ M.1 10 0 31 = sA P i ∧ M.1 10 0 32 = sL P i ∧ M.1 10 0 33 = sH P i
theorem c1039s {p c i : Nat} {f : Nat → Int} {M : Mm} {Q : Mm → Prop} (hp : p < 12) (hM : Mds M p (lay f (2 * p + 1))) (hc : c < vN (lay f (2 * p + 1))) (hi : vS (lay f (2 * p + 1)) c + i < vS (lay f (2 * p + 1)) (c + 1))
    (hQ : ∀ M', R10 S30 M M' → Sid M' (lay f (2 * p + 1)) (vS (lay f (2 * p + 1)) c + i) → Q M') : E_1039 (p : Int) (c : Int) (i : Int) M Q :=
  c1039v hp hM hc hi fun M' h1 h2 h3 h4 h5 h6 => hQ M' ⟨h1, fun q hq => h6 q (by unfold S30 at hq; omega)⟩ ⟨h2, h3, h4, h5⟩
theorem c1045 {p i e : Nat} {P0 P : Int → Int → Bool} {M : Mm} {Q : Int → Mm → Prop} (h12 : p < 12) (hP : Sok P) (hg : EG P0) (hE : Edm M P0) (he : e < vE P0) (hi : i < vE P) (hS : Sid M P i)
    (hQ : Q (if oQ P0 P (2 * p + 1) i e = true then 1 else 0) M) : E_1045 (p : Int) (e : Int) M Q := by
  obtain ⟨a1, a2, a3, a4⟩ := hE.2 e he
  obtain ⟨s1, s2, s3, s4⟩ := hS
  have b : Dir (xD P0 e) ∧ (0 ≤ xL P0 e ∧ xL P0 e ≤ 12) ∧ (0 ≤ xA P0 e ∧ xA P0 e ≤ 12) ∧ 0 ≤ xB P0 e ∧ xB P0 e ≤ 12 := hg.2 e he
  obtain ⟨b1, b2, b3, b4⟩ := hP.2.2.2.2 i hi
  have hT := hg.1
  have io := oQ_iff (P0 := P0) (P := P) (r := 2 * p + 1) (i := i) (e := e)
  refine s_1045_0 ⟨⟨by omega, by omega⟩, fun x3 e3 => ⟨by omega, ?_⟩⟩
  rw [Int.toNat_natCast, a1, a2, a3, a4, s1, s2, s3, s4]
  refine ⟨fun h => ?_, fun h => ⟨by omega, fun _ => by omega, fun b' eb => ?_⟩⟩
  · rw [if_neg (fun g => h (io.mp g).1.symm)] at hQ
    exact hQ
  · have hb : -25 ≤ b' ∧ b' ≤ 25 := by rw [eb]; split <;> omega
    have eb' : b' = - inS (sD P i) (2 * p + 1) := by
      rw [eb, e3, ← h]; unfold inS upV upW; split
      · rw [if_neg (by omega)]; omega
      · rw [if_pos rfl, if_pos rfl]
    refine ⟨by omega, fun _ => by omega, fun _ _ => by omega, fun v ev => ?_⟩
    have hv : v = if oQ P0 P (2 * p + 1) i e = true then 1 else 0 := by
      rw [ev]
      by_cases g : oQ P0 P (2 * p + 1) i e = true
      · obtain ⟨-, g2, g3, g4⟩ := io.mp g
        rw [if_pos g, if_neg (by omega), if_neg (by omega), if_neg (by omega)]
      · rw [if_neg g]
        split
        · rfl
        · split
          · rfl
          · split
            · rfl
            · exact absurd (io.mpr ⟨h.symm, by omega, by omega, by omega⟩) g
    rw [hv]
    exact ⟨by split <;> omega, hQ⟩
theorem c1046 {p c i : Nat} {f : Nat → Int} {M : Mm} {Q : Mm → Prop} (hp : p < 12) (hM : Mds M p (lay f (2 * p + 1))) (hc : c < vN (lay f (2 * p + 1))) (hi : vS (lay f (2 * p + 1)) c + i < vS (lay f (2 * p + 1)) (c + 1)) (hg : EG (lay f 1)) (hE : Edm M (lay f 1))
    (hQ : ∀ M', R10 S41 M M' → M'.1 10 0 41 = cntB (oQ (lay f 1) (lay f (2 * p + 1)) (2 * p + 1) (vS (lay f (2 * p + 1)) c + i)) (vE (lay f 1)) → M'.1 10 0 42 = fsE (oQ (lay f 1) (lay f (2 * p + 1)) (2 * p + 1) (vS (lay f (2 * p + 1)) c + i)) (vE (lay f 1)) → M'.1 10 0 43 = lsE (oQ (lay f 1) (lay f (2 * p + 1)) (2 * p + 1) (vS (lay f (2 * p + 1)) c + i)) (vE (lay f 1)) → Q M') : E_1046 (p : Int) (c : Int) (i : Int) M Q := by
  have hT := hg.1
  have hlt : vS (lay f (2 * p + 1)) c + i < vE (lay f (2 * p + 1)) := Nat.lt_of_lt_of_le hi (hM.1.1.1.mono (c := c + 1) (d := vN (lay f (2 * p + 1))) (by omega) (Nat.le_refl _))
  refine s_1046_0 (c1039s hp hM hc hi fun M1 r1 hs M2 e2 M3 e3 M4 e4 => ?_)
  have q4 : M4.1 10 0 = ups (ups (ups (M1.1 10 0) 41 0) 42 (-1)) 43 (-1) := by rw [e4, setI_at, e3, setI_at, e2, setI_at]
  have r4 : R10 S41 M M4 := by
    rw [e4, e3, e2]
    exact (((r1.up fun q h => Or.inl h).tr (R10.set (Or.inr (by omega)))).tr (R10.set (Or.inr (by omega)))).tr (R10.set (Or.inr (by omega)))
  generalize hb : oQ (lay f 1) (lay f (2 * p + 1)) (2 * p + 1) (vS (lay f (2 * p + 1)) c + i) = b at *
  have key : ∀ (s e : Nat) (M' : Mm), e + s = vE (lay f 1) → R10 S41 M M' → Sid M' (lay f (2 * p + 1)) (vS (lay f (2 * p + 1)) c + i) → M'.1 10 0 41 = cntB b e → M'.1 10 0 42 = fsE b e → M'.1 10 0 43 = lsE b e → L_1046_25 (p : Int) (c : Int) (i : Int) (e : Int) M' Q := by
    intro s
    induction s with
    | zero =>
      intro e M' he r hs' h1 h2 h3
      have h34 := (hE.r10 r (by unfold S41; omega)).1
      refine s_1046_25 ⟨fun _ => ?_, fun h => by omega⟩
      rw [show e = vE (lay f 1) by omega] at h1 h2 h3
      exact hQ M' r h1 h2 h3
    | succ s ih =>
      intro e M' he r hs' h1 h2 h3
      have hE' := hE.r10 r (by unfold S41; omega)
      have h34 := hE'.1
      have heT : e < vE (lay f 1) := by omega
      have hcn := cntB_le b e
      refine s_1046_25 ⟨fun h => by omega, fun _ => c1045 hp (Sok.of hM.1) hg hE' heT hlt hs' ?_⟩
      rw [hb]
      refine ⟨fun hr => ⟨by omega, fun N1 f1 y ey N2 f2 N3 f3 => ⟨by omega, ?_⟩⟩, fun hr => ⟨by omega, ?_⟩⟩
      · have hbe : b e = true := Classical.byContradiction fun h => hr (if_neg h)
        have q : N3.1 10 0 = ups (ups (ups (M'.1 10 0) 41 (M'.1 10 0 41 + 1)) 42 y) 43 (e : Int) := by rw [f3, setI_at, f2, setI_at, f1, setI_at]
        have ey' : y = fsE b (e + 1) := by
          show y = if b e then (if 0 ≤ fsE b e then fsE b e else (e : Int)) else fsE b e
          rw [ey, hbe, if_pos rfl, f1, setI_at, ups_ne (by omega), h2]
        refine ih (e + 1) N3 (by omega) (r.tr ?_) ?_ ?_ ?_ ?_
        · rw [f3, f2, f1]
          exact ((R10.set (Or.inr (by omega))).tr (R10.set (Or.inr (by omega)))).tr (R10.set (Or.inr (by omega)))
        · unfold Sid
          rw [q]
          rw [ups_ne (by omega), ups_ne (by omega), ups_ne (by omega), ups_ne (by omega), ups_ne (by omega), ups_ne (by omega), ups_ne (by omega), ups_ne (by omega), ups_ne (by omega), ups_ne (by omega), ups_ne (by omega), ups_ne (by omega)]
          exact hs'
        · rw [q, ups_ne (by omega), ups_ne (by omega), ups_at, h1, cntB_y hbe]; rfl
        · rw [q, ups_ne (by omega), ups_at, ey']
        · rw [q, ups_at]
          show (e : Int) = if b e then (e : Int) else lsE b e
          rw [hbe, if_pos rfl]
      · have hbe : b e = false := by
          cases h : b e with
          | false => rfl
          | true => rw [h, if_pos rfl] at hr; cases hr
        refine ih (e + 1) M' (by omega) r hs' (by rw [h1, cntB_n hbe]) ?_ ?_
        · show _ = if b e then (if 0 ≤ fsE b e then fsE b e else (e : Int)) else fsE b e
          rw [hbe, if_neg (by decide), h2]
        · show _ = if b e then (e : Int) else lsE b e
          rw [hbe, if_neg (by decide), h3]
  refine key (vE (lay f 1)) 0 M4 (by omega) r4 ?_ ?_ ?_ ?_
  · unfold Sid
    rw [q4]
    rw [ups_ne (by omega), ups_ne (by omega), ups_ne (by omega), ups_ne (by omega), ups_ne (by omega), ups_ne (by omega), ups_ne (by omega), ups_ne (by omega), ups_ne (by omega), ups_ne (by omega), ups_ne (by omega), ups_ne (by omega)]
    exact hs
  · rw [q4, ups_ne (by omega), ups_ne (by omega), ups_at]; rfl
  · rw [q4, ups_ne (by omega), ups_at]; rfl
  · rw [q4, ups_at]; rfl

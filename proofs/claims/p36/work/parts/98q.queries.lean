/-! what the law's questions answer -/
/-- what the class keeps between two of the law's questions -/
def LI (M : Mm) (f : Nat → Int) : Prop := M.1 500 0 = f ∧ R12 f ∧ Non M ∧ (M.1 5 0 10 ≠ 0 → FrC M f (nP f)) ∧ M.1 6 0 4 = -1 ∧ ∃ s u : Nat, M.1 1 0 1 = s ∧ s < 9 ∧ M.1 1 0 2 = u ∧ u ≤ 8
section LQ
variable {M : Mm} {f : Nat → Int} {Q : Int → Mm → Prop}
theorem LI.f0 (h : LI M f) : M.1 500 0 = f := h.1
theorem LI.r (h : LI M f) : R12 f := h.2.1
theorem LI.non (h : LI M f) : Non M := h.2.2.1
theorem LI.frc (h : LI M f) : M.1 5 0 10 ≠ 0 → FrC M f (nP f) := h.2.2.2.1
theorem LI.ep (h : LI M f) : M.1 6 0 4 = -1 := h.2.2.2.2.1
theorem LI.hs (h : LI M f) : ∃ s u : Nat, M.1 1 0 1 = s ∧ s < 9 ∧ M.1 1 0 2 = u ∧ u ≤ 8 := h.2.2.2.2.2
theorem LI.go {M1 : Mm} (h : LI M f) (g : Fx TRF M M1) (hF : FrC M1 f (nP f)) : LI M1 f := ⟨by rw [(g 500 0 (by unfold TRF; omega)).1]; exact h.f0, h.r, h.non.trf g, fun _ => hF, by rw [(g 6 0 (by unfold TRF; omega)).1]; exact h.ep, by rw [(g 1 0 (by unfold TRF; omega)).1]; exact h.hs⟩
theorem LI.cx {M1 : Mm} (h : LI M f) (g : Fx TCX M M1) : LI M1 f := ⟨by rw [(g 500 0 (by unfold TCX; omega)).1]; exact h.f0, h.r, h.non.fx ⟨(g 402 12 (by unfold TCX; omega)).1, (g 3 12 (by unfold TCX; omega)).1, (g 2 12 (by unfold TCX; omega)).1, (g 401 12 (by unfold TCX; omega)).2⟩, fun z => (h.frc (by rw [← (g 5 0 (by unfold TCX; omega)).1]; exact z)).cx g, by rw [(g 6 0 (by unfold TCX; omega)).1]; exact h.ep, by rw [(g 1 0 (by unfold TCX; omega)).1]; exact h.hs⟩
theorem LI.chg {M2 : Mm} {g k : Nat → Int} {s u : Nat} (h : LI M f) (c : Fx (fun t j => (t = 1 ∨ t = 5 ∨ t = 200 ∨ t = 500) ∧ j = 0) M M2) (e : M2.1 500 0 = g) (hg : R12 g) (z : M2.1 5 0 10 = 0) (rc : RcC k M2 s u) (h8 : u ≤ 8) : LI M2 g := ⟨e, hg, h.non.fx ⟨(c 402 12 (by omega)).1, (c 3 12 (by omega)).1, (c 2 12 (by omega)).1, (c 401 12 (by omega)).2⟩, fun g => absurd z g, by rw [(c 6 0 (by omega)).1]; exact h.ep, (s + 1) % 9, (if u = 8 then 8 else u + 1), rc.1, Nat.mod_lt _ (by omega), rc.2.1, by split <;> omega⟩
theorem a502 {Q : Mm → Prop} (h : LI M f) (hQ : ∀ M1, LI M1 f → FrC M1 f (nP f) → Q M1) : E_502 0 M Q := by
  refine c502 h.f0 h.r h.non (fun g => ⟨_, h.frc g⟩) fun M1 N f1 _ hF hN => ?_
  have e := nP_eq hF.1
  subst e
  exact hQ M1 (h.go f1 hF) hF
theorem a905 (h : LI M f) (hQ : ∀ M1, LI M1 f → Q (-1) M1) : E_905 M Q := s_905_0 (by rw [h.ep]; exact hQ M h)
theorem a910 {x y : Nat} (h : LI M f) (hx : x < 12) (hy : y < 12) (hQ : ∀ M1, LI M1 f → Q (b2i (cel f x y)) M1) : E_910 (x : Int) (y : Int) M Q := by
  have hi := isc (x : Int) (y : Int)
  refine s_910_0 ⟨fun hc => ?_, fun hc => by omega⟩
  rw [h.f0, hasV_cel h.r]
  exact ⟨b2i_c _, hQ M h⟩
theorem a911 (h : LI M f) (hQ : ∀ M1, LI M1 f → Q (vE (lay f 1) : Int) M1) : E_911 M Q := s_911_0 (a502 h fun M1 c hF => by rw [hF.2.2.2.2.2.1.1.1]; exact hQ M1 c)
theorem a912 {e : Nat} {w : Int} (h : LI M f) (he : e < vE (lay f 1)) (h0 : 0 ≤ w) (h6 : w ≤ 6) (hQ : ∀ M1, LI M1 f → Q (edV f e w) M1) : E_912 (e : Int) w M Q := by
  refine s_912_0 (a502 h fun M1 c hF => ?_)
  rw [hF.2.2.2.2.2.1.1.1]
  exact ⟨fun g => by omega, fun _ => ⟨fun _ => ⟨fun g => by omega, fun _ => ⟨fun _ => c519 hF he (hQ M1 c), fun g => by omega⟩⟩, fun g => by omega⟩⟩
theorem a913 (h : LI M f) (hQ : ∀ M1, LI M1 f → Q (corN (cel f) : Int) M1) : E_913 M Q := s_913_0 (c413 (by rw [h.f0]; exact h.r) (by rw [h.f0]; exact hQ M h))
theorem a914 (h : LI M f) (hQ : ∀ M1, LI M1 f → Q (xG (lay f 1) : Int) M1) : E_914 M Q := s_914_0 (a502 h fun M1 c hF => by rw [hF.2.2.2.2.2.1.2.2.2.2.1]; exact hQ M1 c)
theorem a915 {g i : Nat} {w : Int} (h : LI M f) (hi : Gf (lay f 1) g i) (h0 : 0 ≤ w) (h3 : w ≤ 3) (hQ : ∀ M1, LI M1 f → Q (gpV (lay f 1) i w) M1) : E_915 (g : Int) w M Q := by
  refine s_915_0 (a502 h fun M1 c hF => ?_)
  have e9 : M1.1 0 0 9 = xG (lay f 1) := hF.2.2.2.2.2.1.2.2.2.2.1
  rw [e9]
  have hl := hi.lt
  exact ⟨fun g => by omega, fun _ => ⟨fun _ => ⟨fun g => by omega, fun _ => ⟨fun _ => c10 (EG.of hF.2.2.2.2.1) hF.2.2.2.2.2.1 hi (hQ M1 c), fun g => by omega⟩⟩, fun g => by omega⟩⟩
theorem a916 (h : LI M f) (hQ : ∀ M1, LI M1 f → Q (symV (cel f) : Int) M1) : E_916 M Q := s_916_0 (c409 (by omega) (by rw [h.f0]; exact h.r) fun M1 f1 => by rw [h.f0]; exact hQ M1 (h.cx (f1.up fun t j g => by unfold TCX; omega)))
theorem a917 {x y : Int} (h : LI M f) (hx : 0 ≤ x ∧ x ≤ 96) (hy : 0 ≤ y ∧ y ≤ 96) (hQ : ∀ a M1, IsH f x y a → LI M1 f → Q a M1) : E_917 x y M Q := s_917_0 ⟨fun g => by omega, fun _ => ⟨fun g => by omega, fun _ => ⟨fun g => by omega, fun _ => ⟨fun _ => c415 h.f0 h.r hx hy fun a ha => hQ a M ha h, fun g => by omega⟩⟩⟩⟩
theorem a918 {x y : Nat} (h : LI M f) (hx : x < 12) (hy : y < 12) (hQ : ∀ M1, LI M1 f → Q (fcC f (12 * y + x)) M1) : E_918 (x : Int) (y : Int) M Q := by
  have hi := isc (x : Int) (y : Int)
  refine s_918_0 ⟨fun hc => a502 h fun M1 c hF => s_518_0 ⟨⟨by omega, by omega⟩, ?_⟩, fun hc => by omega⟩
  rw [show (y : Int) * 12 + (x : Int) = ((12 * y + x : Nat) : Int) by omega, atN_in (by omega), hF.2.2.2.2.2.2.2 _ (by omega)]
  exact hQ M1 c
theorem a919 {k : Nat} (h : LI M f) (hk : k ≤ 24) (hQ : ∀ M1, LI M1 f → Q (hcnt f k : Int) M1) : E_919 (k : Int) M Q := s_919_0 ⟨fun g => by omega, fun _ => ⟨fun _ => a502 h fun M1 c hF => c514 hF hk (hQ M1 c), fun g => by omega⟩⟩
theorem a920 (h : LI M f) (hQ : ∀ M1, LI M1 f → Q (volV f (nP f)) M1) : E_920 M Q := by
  refine s_920_0 (a502 h fun M1 c hF => s_515_0 ?_)
  have h12 := hF.1.le
  have h11 := hF.2.1.1.1
  have cls : ∀ s k : Nat, k + s = nP f → L_515_4 (volV f k) (k : Int) M1 Q := by
    intro s
    induction s with
    | zero =>
      intro k hk
      have ek : k = nP f := by omega
      refine s_515_4 ⟨fun _ => ?_, fun g => by rw [h11] at g; omega⟩
      rw [ek]
      exact hQ M1 c
    | succ s ih =>
      intro k hk
      have b0 := vol_s f k
      have b1 := vol_b f k
      have h1 := hcnt_le f k
      have h2 := hcnt_le f (k + 1)
      have h3 := lcnt_le f (2 * k + 1)
      have ev : atN 26 (M1.1 607 0) (2 * (k : Int) + 2) = (lcnt f (2 * k + 1) : Int) := by
        rw [show 2 * (k : Int) + 2 = ((2 * k + 2 : Nat) : Int) by omega, atN_in (by omega), hF.2.2.2.1 _ (by omega), if_neg (by omega)]
        rfl
      refine s_515_4 ⟨fun g => by rw [h11] at g; omega, fun _ => c514 hF (by omega) ?_⟩
      rw [ev]
      refine ⟨⟨by omega, by omega⟩, ⟨by omega, by omega⟩, ?_⟩
      rw [show (k : Int) + 1 = ((k + 1 : Nat) : Int) by omega]
      refine c514 hF (by omega) ⟨⟨by omega, by omega⟩, fun x ex => ⟨by omega, ?_⟩⟩
      have e : x = volV f (k + 1) := ex
      rw [e]
      exact ih (k + 1) (by omega)
  exact cls (nP f) 0 (by omega)
theorem a921 (h : LI M f) (hQ : ∀ M1, LI M1 f → IsN f (nP f) → Q (nP f : Int) M1) : E_921 M Q := s_921_0 (a502 h fun M1 c hF => by rw [hF.2.1.1.1]; exact hQ M1 c hF.1)
theorem a922 {p : Nat} {w : Int} (h : LI M f) (hp : p < nP f) (hw : 0 ≤ w ∧ w ≤ 7) (hQ : ∀ M1, LI M1 f → FrC M1 f (nP f) → Q (pvV f p w) M1) : E_922 (p : Int) w M Q := by
  refine s_922_0 (a502 h fun M1 c hF => ?_)
  have e := hp_p (M1.1 5 0 11) (p : Int)
  have h11 : M1.1 5 0 11 = nP f := hF.2.1.1.1
  exact ⟨fun _ => ⟨fun g => by omega, fun _ => ⟨fun _ => c524 hF hp hw (hQ M1 c hF), fun g => by omega⟩⟩, fun g => by omega⟩
theorem a923 {p k : Nat} {w : Int} (h : LI M f) (hp : p < nP f) (hk : k < vN (PL f p)) (hw : 0 ≤ w ∧ w ≤ 3) (hQ : ∀ M1, LI M1 f → Q (cvV f p k w) M1) : E_923 (p : Int) (k : Int) w M Q := by
  refine s_923_0 (a502 h fun M1 c hF => ?_)
  have hh : hcV (M1.1 5 0 11) (p : Int) (M1.1 2 (phV (M1.1 5 0 11) (p : Int)) 11) (k : Int) = 1 := by
    rcases hc_p hF (p : Int) (k : Int) with ⟨a, -⟩ | ⟨-, b⟩
    · exact a
    · exact absurd ⟨p, k, rfl, rfl, hp, hk⟩ b
  rw [hh]
  refine ⟨fun _ => ⟨fun g => by omega, fun _ => ⟨fun _ => ?_, fun g => by omega⟩⟩, fun g => absurd g (by decide)⟩
  obtain ⟨hI, hT, hkk, -⟩ := hF
  have h12 := hI.le
  obtain ⟨-, hcls⟩ := hkk p hp
  have h78 : vN (PL f p) ≤ 78 := (Sok.of hcls.ok).2.2.1
  have ep : phV (M1.1 5 0 11) (p : Int) = p := by rw [hT.1.1]; exact phV_in (by omega) (by omega)
  obtain ⟨d0, d1, d2, d3, d4⟩ := hcls.2.2.1 k hk
  have fin : ∀ v : Int, v = cvV f p k w → Q v M1 := fun v e => by rw [e]; exact hQ M1 c
  rw [ep]
  refine s_208_0 ⟨fun g => ?_, fun g => ?_, fun g => ?_, fun g => ?_⟩
  · refine fin _ ?_
    rw [atN_in (by omega)]
    unfold cvV
    rw [if_pos g]; exact d1
  · refine fin _ ?_
    rw [atN_in (by omega)]
    unfold cvV
    rw [if_neg (by omega), if_pos g]; exact d2
  · refine fin _ ?_
    rw [atN_in (by omega)]
    unfold cvV
    rw [if_neg (by omega), if_neg (by omega), if_pos g]; exact d3
  · refine fin _ ?_
    rw [atN_in (by omega)]
    unfold cvV
    rw [if_neg (by omega), if_neg (by omega), if_neg (by omega)]; exact d4
theorem a924 {p k s : Nat} {w : Int} (h : LI M f) (hp : p < nP f) (hk : k < vN (PL f p)) (hs : vS (PL f p) k + s < vS (PL f p) (k + 1)) (hw : w = 0 ∨ w = 1) (hQ : ∀ M1, LI M1 f → Q (if w ≠ 0 then vY (PL f p) (vS (PL f p) k + s) else vX (PL f p) (vS (PL f p) k + s)) M1) : E_924 (p : Int) (k : Int) (s : Int) w M Q := by
  refine s_924_0 (a502 h fun M1 c hF => ?_)
  have hh := hs_p hF (p : Int) (k : Int) (s : Int)
  have hh : hsV (hcV (M1.1 5 0 11) (p : Int) (M1.1 2 (phV (M1.1 5 0 11) (p : Int)) 11) (k : Int)) (s : Int) (sofV (M1.1 2 (phV (M1.1 5 0 11) (p : Int)) 11) (M1.1 301 (phV (M1.1 5 0 11) (p : Int))) (k : Int)) = 1 := by
    rcases hh with ⟨a, -⟩ | ⟨-, b⟩
    · exact a
    · exact absurd ⟨p, k, s, rfl, rfl, rfl, hp, hk, hs⟩ b
  rw [hh]
  obtain ⟨hI, hT, hkk, -⟩ := hF
  have h12 := hI.le
  obtain ⟨-, hcls⟩ := hkk p hp
  have hsok := Sok.of hcls.ok
  have h78 : vN (PL f p) ≤ 78 := hsok.2.2.1
  have h312 : vE (PL f p) ≤ 312 := hsok.2.2.2.1
  have hleE : vS (PL f p) (k + 1) ≤ vE (PL f p) := hcls.1.1.mono (show k + 1 ≤ vN (PL f p) by omega) (Nat.le_refl _)
  have ep : phV (M1.1 5 0 11) (p : Int) = p := by rw [hT.1.1]; exact phV_in (by omega) (by omega)
  have ei : atN 96 (M1.1 300 p) (k : Int) + (s : Int) = ((vS (PL f p) k + s : Nat) : Int) := by
    have this' : M1.1 300 p k = vS (PL f p) k := (hcls.2.2.1 k hk).1
    rw [atN_in (by omega), this']; omega
  have hi : vS (PL f p) k + s < vE (PL f p) := by omega
  obtain ⟨a1, a2, a3, a4⟩ := hcls.at hsok hi
  obtain ⟨hvx, hvy⟩ := vx_side (hsok.2.2.2.2 _ hi).1
  have fin := hQ M1 c
  rw [ep]
  refine ⟨fun _ => ⟨fun hw0 => ?_, fun hw0 => ⟨fun hw1 => ?_, fun hw1 => by omega⟩⟩, fun g => absurd g (by decide)⟩
  · rw [if_neg (fun g => g hw0)] at fin
    refine s_210_0 ?_
    rw [ei, a1, a2, a3, a4, hvx, hvy]
    exact ⟨by omega, fun g => absurd hw0 g, fun _ => fin⟩
  · rw [if_pos hw0] at fin
    refine s_210_0 ?_
    rw [ei, a1, a2, a3, a4, hvx, hvy]
    exact ⟨by omega, fun _ => fin, fun g => absurd g hw0⟩
theorem a927 (h : LI M f) (hQ : ∀ M1, LI M1 f → Q (evN f (nP f) : Int) M1) : E_927 M Q := s_927_0 (a502 h fun M1 c hF => c527 hF c.non (hQ M1 c))
theorem a929 (h : LI M f) (hQ : ∀ M1, LI M1 f → Q ((roots (nc f) (prK f)).length : Int) M1) : E_929 M Q := s_929_0 (a502 h fun M1 c hF => by rw [hF.2.2.2.2.2.2.1.1]; exact hQ M1 c)
theorem a933 (h : LI M f) (hQ : ∀ M1, LI M1 f → Q (sizeV f) M1) : E_933 0 M Q := s_933_0 ⟨fun _ => c402 (by rw [h.f0]; exact h.r) (by rw [h.f0]; exact hQ M h), fun g => by omega, fun g => by omega, fun g => by omega, fun g => absurd rfl g.1⟩
theorem a902 (h : LI M f) (hQ : ∀ M1 f1, LI M1 f1 → Q (sizeV f) M1) : E_902 M Q := by
  refine s_902_0 (c402 (by rw [h.f0]; exact h.r) (Ev.mono e403 fun v M1 g => ⟨g.2, ?_⟩))
  obtain ⟨s, u, s1, s2, s3, s4⟩ := h.hs
  have f1 : Fx (fun t j => t = 500 ∧ j = 0) M M1 := by rw [g.1]; exact Fx.setA ⟨rfl, rfl⟩
  refine c934 (s := s) (u := u) (by rw [(f1 1 0 (by omega)).1]; exact s1) s2 (by rw [(f1 1 0 (by omega)).1]; exact s3) s4 fun M2 f2 rc z => ?_
  rw [h.f0]
  refine hQ M2 _ (h.chg (g := M2.1 500 0) ((f1.up fun t j g => by omega).tr (f2.up fun t j g => by omega)) rfl ?_ z rc s4)
  rw [(f2 500 0 (by omega)).1]
  intro q hq
  rw [g.1, setA_at]
  have e : upTo (fun _ => (0 : Int)) (M.1 500 0) 12 q = 0 := if_pos hq
  rw [e]
  exact ⟨by omega, by omega⟩
theorem a901 {o x y w t : Int} (h : LI M f) (ho : 0 ≤ o ∧ o ≤ 2) (hx : 0 ≤ x ∧ x < 12) (hy : 0 ≤ y ∧ y < 12) (hw : 1 ≤ w ∧ w ≤ 12 - x) (ht : 1 ≤ t ∧ t ≤ 12 - y) (hQ : ∀ v M1 f1, LI M1 f1 → Q v M1) : E_901 o x y w t M Q := by
  have hi := isc x y
  refine s_901_0 ⟨fun g => by omega, fun _ => ⟨fun _ => ⟨fun g => by omega, fun _ => ⟨fun g => by omega, fun _ => ⟨by omega, fun g => by omega, fun _ => ⟨fun g => by omega, fun _ => ⟨by omega, fun _ => ?_, fun g => by omega⟩⟩⟩⟩⟩, fun g => by omega⟩⟩
  refine c405 (by omega) (by omega) (by omega) (by omega) (by omega) (by omega) fun M1 f1 e1 => ?_
  obtain ⟨s, u, s1, s2, s3, s4⟩ := h.hs
  refine c934 (s := s) (u := u) (by rw [(f1 1 0 (by omega)).1]; exact s1) s2 (by rw [(f1 1 0 (by omega)).1]; exact s3) s4 fun M2 f2 rc z => ?_
  have hR : R12 (M2.1 500 0) := by
    rw [(f2 500 0 (by omega)).1]
    have h12 := ch_12 (o := o) (x := x) (y := y) (w := w) (h := t) (f := M.1 500 0) (by rw [h.f0]; exact h.r) (by omega) (by omega) (by omega)
    exact h12.cg e1
  have hL := h.chg (g := M2.1 500 0) ((f1.up fun t j g => by omega).tr (f2.up fun t j g => by omega)) rfl hR z rc s4
  exact c402 hR (hQ _ M2 _ hL)
end LQ

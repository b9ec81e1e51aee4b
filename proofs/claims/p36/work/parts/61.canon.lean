/-! the lists of a phase, by the phase alone -/
abbrev Lt : Type := Nat × (Nat → Nat) × (Nat → Int) × (Nat → Int) × (Nat → Nat)
def LtP (P : Int → Int → Bool) (t : Lt) : Prop := Cf P t.1 t.2.1 t.2.2.1 t.2.2.2.1 ∧ LN P (t.2.1 t.1) t.2.2.1 t.2.2.2.1 t.2.2.2.2
noncomputable def vT (P : Int → Int → Bool) : Lt := @dite Lt (∃ t, LtP P t) (Classical.propDecidable _) (fun h => Classical.choose h) (fun _ => (0, fun _ => 0, fun _ => 0, fun _ => 0, fun _ => 0))
noncomputable def vN (P : Int → Int → Bool) : Nat := (vT P).1
noncomputable def vS (P : Int → Int → Bool) : Nat → Nat := (vT P).2.1
noncomputable def vX (P : Int → Int → Bool) : Nat → Int := (vT P).2.2.1
noncomputable def vY (P : Int → Int → Bool) : Nat → Int := (vT P).2.2.2.1
noncomputable def vL (P : Int → Int → Bool) : Nat → Nat := (vT P).2.2.2.2
/-- how many sides -/
noncomputable def vE (P : Int → Int → Bool) : Nat := vS P (vN P)
def Vok (P : Int → Int → Bool) : Prop := Cf P (vN P) (vS P) (vX P) (vY P) ∧ LN P (vE P) (vX P) (vY P) (vL P)
theorem vT_ok {P : Int → Int → Bool} {n : Nat} {st : Nat → Nat} {xs ys : Nat → Int} {ln : Nat → Nat} (h : Cf P n st xs ys) (hl : LN P (st n) xs ys ln) : Vok P := by
  have hex : ∃ t, LtP P t := ⟨(n, st, xs, ys, ln), h, hl⟩
  have e : vT P = Classical.choose hex := by exact dif_pos hex
  have := Classical.choose_spec hex
  unfold Vok vE vN vS vX vY vL
  rw [e]
  exact this
theorem v_un {P : Int → Int → Bool} (hg : InG P) {n : Nat} {st : Nat → Nat} {xs ys : Nat → Int} {ln : Nat → Nat} (h : Cf P n st xs ys) (hl : LN P (st n) xs ys ln) : n = vN P ∧ (∀ c, c ≤ n → st c = vS P c) ∧ (∀ i, i < st n → xs i = vX P i ∧ ys i = vY P i ∧ ln i = vL P i) ∧ st n = vE P := by
  obtain ⟨v1, v2⟩ := vT_ok h hl
  obtain ⟨u1, u2, u3⟩ := h.un hg v1
  have u4 : st n = vE P := by unfold vE; rw [← u1]; exact u2 n (Nat.le_refl n)
  refine ⟨u1, u2, fun i hi => ⟨(u3 i hi).1, (u3 i hi).2, ?_⟩, u4⟩
  have a := hl i hi
  have b := v2 i (by omega)
  rw [← (u3 i hi).1, ← (u3 i hi).2] at b
  exact a.un b
theorem cntB_cg {b b' : Nat → Bool} : ∀ {n : Nat}, (∀ x, x < n → b x = b' x) → cntB b n = cntB b' n
  | 0, _ => rfl
  | n + 1, h => by
    show cntB b n + (bif b n then 1 else 0) = cntB b' n + (bif b' n then 1 else 0)
    rw [cntB_cg (fun x hx => h x (by omega)), h n (by omega)]
/-- what class 201 leaves, by the phase alone -/
def Cls (M : Mm) (k : Nat) (P : Int → Int → Bool) : Prop := ClO M k P (vN P) (vS P) (vX P) (vY P) (vL P)
theorem ClO.v {M : Mm} {k n : Nat} {P : Int → Int → Bool} {st : Nat → Nat} {xs ys : Nat → Int} {ln : Nat → Nat} (hg : InG P) (h : ClO M k P n st xs ys ln) : Cls M k P := by
  obtain ⟨h1, h2, h3, h4, h5, h6, h7, h8⟩ := h
  have hl : LN P (st n) xs ys ln := fun i hi => (h2 i hi).1
  obtain ⟨v1, -⟩ := vT_ok h1 hl
  obtain ⟨u1, u2, u3, u4⟩ := v_un hg h1 hl
  have hm : ∀ c, c ≤ n → st c ≤ st n := fun c hc => h1.1.mono hc (Nat.le_refl n)
  have hlt : ∀ c, c < n → st c < st n := fun c hc => Nat.lt_of_lt_of_le (h1.1.2.1 c hc).1 (hm (c + 1) hc)
  have hcum : ∀ m, m ≤ st n → cum ln m = cum (vL P) m := fun m hm => sumN_congr fun i hi => by rw [(u3 i (by omega)).2.2]
  refine ⟨v1, fun i hi => ?_, fun c hc => ?_, by rw [h4, u1], ?_, ?_, ?_, ?_⟩
  · have hi' : i < st n := by rw [u4]; exact hi
    have := h2 i hi'
    rw [(u3 i hi').1, (u3 i hi').2.1, (u3 i hi').2.2] at this
    exact this
  · have hc' : c < n := by rw [u1]; exact hc
    obtain ⟨a1, a2, a3, a4, a5⟩ := h3 c hc'
    have e1 := u2 c (by omega)
    have e2 := u2 (c + 1) hc'
    have e3 := u3 (st c) (hlt c hc')
    have m1 := hm (c + 1) hc'
    have m0 := hm c (by omega)
    rw [hcum _ m1, hcum _ m0] at a5
    rw [e3.1, e3.2.1] at a3 a4
    rw [e1, e2] at a5
    rw [e1, e2] at a2
    rw [e1] at a1 a3 a4
    exact ⟨a1, a2, a3, a4, a5⟩
  · rw [h5, ← u1]
    exact sumN_congr fun c hc => by
      show hol P (xs (st c)) (ys (st c)) = hol P (vX P (vS P c)) (vY P (vS P c))
      rw [(u3 (st c) (hlt c hc)).1, (u3 (st c) (hlt c hc)).2.1, u2 c (by omega)]
  · rw [h6, u4]; rfl
  · rw [h7, show vS P (vN P) = st n from u4.symm]
    exact congrArg (fun z : Nat => (z : Int)) (cntB_cg (b := fun j => fl P (xs j) (ys j)) (b' := fun j => fl P (vX P j) (vY P j)) fun j hj => by rw [(u3 j hj).1, (u3 j hj).2.1])
  · rw [h8, show vS P (vN P) = st n from u4.symm]
    exact hcum _ (Nat.le_refl _)
theorem Cls.ok {M : Mm} {k : Nat} {P : Int → Int → Bool} (h : Cls M k P) : Vok P := ⟨h.1, fun i hi => (h.2.1 i hi).1⟩
theorem c201v {f : Nat → Int} {k : Nat} {M : Mm} {Q : Mm → Prop} (hph : PhC M f k) (hQ : ∀ M', Fx (T201 k) M M' → Cls M' k (lay f (2 * k + 1)) → Q M') : E_201 k k M Q :=
  c201 hph fun M' _ _ _ _ _ hf h => hQ M' hf (h.v (lay_g _ _))
/-- the sides of a phase -/
noncomputable def sD (P : Int → Int → Bool) (i : Nat) : Int := lvd P (vX P i) (vY P i)
noncomputable def sA (P : Int → Int → Bool) (i : Nat) : Int := linS (sD P i) (vX P i) (vY P i)
noncomputable def sL (P : Int → Int → Bool) (i : Nat) : Int := loS (sD P i) (vX P i) (vY P i) (vL P i)
noncomputable def sH (P : Int → Int → Bool) (i : Nat) : Int := hiS (sD P i) (vX P i) (vY P i) (vL P i)
theorem Vok.side {f : Nat → Int} {k : Nat} (h : Vok (lay f (2 * k + 1))) {i : Nat} (hi : i < vE (lay f (2 * k + 1))) : Dir (sD (lay f (2 * k + 1)) i) ∧ (0 ≤ sA (lay f (2 * k + 1)) i ∧ sA (lay f (2 * k + 1)) i ≤ 48) ∧ (0 ≤ sL (lay f (2 * k + 1)) i ∧ sL (lay f (2 * k + 1)) i ≤ 48) ∧ 0 ≤ sH (lay f (2 * k + 1)) i ∧ sH (lay f (2 * k + 1)) i ≤ 48 := by
  have hb := h.1.1.bend hi
  have r := side_rng (lay_g f _) (pk_nod f k) hb (h.2 i hi)
  refine ⟨(bn_lv (pk_nod f k) hb).dir, r.1, ⟨r.2.1, ?_⟩, ?_, r.2.2.1⟩
  · show loS (lvd _ _ _) _ _ _ ≤ 48
    omega
  · show 0 ≤ hiS (lvd _ _ _) _ _ _
    omega
theorem Vok.le {f : Nat → Int} {k : Nat} (h : Vok (lay f (2 * k + 1))) : vN (lay f (2 * k + 1)) ≤ 78 ∧ vE (lay f (2 * k + 1)) ≤ 312 := ⟨Ct.n78 (f := f) (k := k) h.1.1, Ct.le (f := f) (k := k) h.1.1⟩

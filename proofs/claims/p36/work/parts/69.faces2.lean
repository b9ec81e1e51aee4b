/-! faces of all squares; by the reference -/
theorem Edc.fx {M M' : Mm} {P : Int → Int → Bool} (h : Edc M P) (e : ∀ t, t = 0 ∨ (100 ≤ t ∧ t ≤ 107) → M'.1 t 0 = M.1 t 0) : Edc M' P := by
  unfold Edc EdC EdB at h ⊢
  rw [e 0 (by omega), e 100 (by omega), e 101 (by omega), e 102 (by omega), e 103 (by omega), e 104 (by omega), e 105 (by omega), e 106 (by omega), e 107 (by omega)]
  exact h
noncomputable def fcC (f : Nat → Int) (c : Nat) : Int := if sd f c 25 ≠ 0 then fcV (lay f 1) (2 * smx c + 1) (2 * smy c + 1) (2 * (sd f c 25 : Int) - 1) else -1
def TF (t j : Nat) : Prop := t = 609 ∧ j = 0
theorem c516 {f : Nat → Int} {M : Mm} {Q : Mm → Prop} (hs : ∀ c, c < 144 → M.1 608 0 c = sd f c 25) (hg : EG (lay f 1)) (hE : Edc M (lay f 1)) (hQ : ∀ M', Fx TF M M' → (∀ c, c < 144 → M'.1 609 0 c = fcC f c) → Q M') : E_516 M Q := by
  refine s_516_0 ?_
  have key : ∀ (s c : Nat) (M' : Mm), c + s = 144 → Fx TF M M' → (∀ c', c' < c → M'.1 609 0 c' = fcC f c') → L_516_2 (c : Int) M' Q := by
    intro s
    induction s with
    | zero =>
      intro c M' hc hf h
      refine s_516_2 ⟨fun _ => hQ M' hf fun c' hc' => h c' (by omega), fun h => by omega⟩
    | succ s ih =>
      intro c M' hc hf h
      have h8 : M'.1 608 0 = M.1 608 0 := (hf 608 0 (by simp [TF])).1
      have hE' : Edc M' (lay f 1) := hE.fx fun t ht => (hf t 0 (by unfold TF; omega)).1
      have hsc : M'.1 608 0 c = sd f c 25 := by rw [h8]; exact hs c (by omega)
      have hle := sd_le f c 25
      have step : ∀ (v : Int) (M2 : Mm), v = fcC f c → M2 = setI M' 609 0 c v → L_516_2 ((c : Int) + 1) M2 Q := by
        intro v M2 hv e2
        refine ih (c + 1) M2 (by omega) (hf.tr (by rw [e2]; exact Fx.setI ⟨rfl, rfl⟩)) fun c' hc' => ?_
        rw [e2, setI_at]
        by_cases k : c' = c
        · rw [k, ups_at, hv]
        · rw [ups_ne k]; exact h c' (by omega)
      refine s_516_2 ⟨fun h => by omega, fun _ => ?_⟩
      rw [atN_i (by omega) (by omega), Int.toNat_natCast, hsc]
      refine ⟨fun h0 => c517 (by omega) hsc (by omega) hg hE' ⟨by omega, fun M2 e2 => ⟨by omega, ?_⟩⟩, fun h0 => ⟨by omega, fun M2 e2 => ⟨by omega, ?_⟩⟩⟩
      · refine step _ M2 ?_ e2
        unfold fcC
        rw [if_pos (by omega)]
      · refine step _ M2 ?_ e2
        unfold fcC
        rw [if_neg (by omega)]
  exact key 144 0 M rfl Fx.rf fun c' h => absurd h (Nat.not_lt_zero c')
theorem sd_cel {f : Nat → Int} {x y : Nat} (hx : x < 12) (hy : y < 12) : 0 < sd f (12 * y + x) 25 ↔ cel f x y = true := by
  obtain ⟨k1, k2⟩ := sd_lay (f := f) (c := 12 * y + x) (n := 25)
  have e : lay f 0 (smx (12 * y + x)) (smy (12 * y + x)) = cel f x y := by
    rw [lay_0]
    rw [show smx (12 * y + x) / 4 = (x : Int) by unfold smx; omega, show smy (12 * y + x) / 4 = (y : Int) by unfold smy; omega]
  rw [← e]
  constructor
  · exact k1 0
  · intro h
    refine Nat.pos_of_ne_zero fun h0 => ?_
    rw [h0] at k2
    rw [k2 (by omega)] at h
    cases h

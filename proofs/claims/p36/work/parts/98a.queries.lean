/-! queries: edges, corners, groups, symmetries, heights, areas -/
theorem isc (x y : Int) : (isCellV x y = 1 ∧ 0 ≤ x ∧ x < 12 ∧ 0 ≤ y ∧ y < 12) ∨ (isCellV x y = 0 ∧ ¬ (0 ≤ x ∧ x < 12 ∧ 0 ≤ y ∧ y < 12)) := by
  unfold isCellV
  by_cases h : 0 ≤ x ∧ x < 12 ∧ 0 ≤ y ∧ y < 12
  · rw [if_pos h]; exact Or.inl ⟨rfl, h⟩
  · rw [if_neg h]; exact Or.inr ⟨rfl, h⟩
section Fin
variable {M M1 M2 : Mm} {K : Mm → Prop}
end Fin
section Kinds
variable {M : Mm} {K : Mm → Prop}
/-- the contour of an edge -/
noncomputable def conI (P : Int → Int → Bool) (e : Nat) : Nat := @dite Nat (∃ c, c < vN P ∧ vS P c ≤ e ∧ e < vS P (c + 1)) (Classical.propDecidable _) (fun h => Classical.choose h) (fun _ => 0)
theorem conI_s {P : Int → Int → Bool} (h : Vok P) {e : Nat} (he : e < vE P) : conI P e < vN P ∧ vS P (conI P e) ≤ e ∧ e < vS P (conI P e + 1) := by
  have hex : ∃ c, c < vN P ∧ vS P c ≤ e ∧ e < vS P (c + 1) := h.1.1.find he
  unfold conI
  rw [dif_pos hex]
  exact Classical.choose_spec hex
/-- how many cells in an edge's face -/
noncomputable def fcN (f : Nat → Int) (e n : Nat) : Nat := cntB (fun c => decide (fcC f c = e)) n
noncomputable def edV (f : Nat → Int) (e : Nat) (w : Int) : Int := if w = 0 then xD (lay f 1) e else if w = 1 then xL (lay f 1) e else if w = 2 then xA (lay f 1) e else if w = 3 then xB (lay f 1) e else if w = 4 then (conI (lay f 1) e : Int) else if w = 5 then (fcN f e 144 : Int) else (prf (drB f e) (nP f) : Int)
theorem c520 {f : Nat → Int} {e : Nat} {M : Mm} {Q : Int → Mm → Prop} (hf : ∀ c, c < 144 → M.1 609 0 c = fcC f c) (hQ : Q (fcN f e 144) M) : E_520 (e : Int) M Q := by
  refine s_520_0 ?_
  have key : ∀ s c : Nat, c + s = 144 → L_520_4 (e : Int) (fcN f e c : Int) (c : Int) M Q := by
    intro s
    induction s with
    | zero =>
      intro c hc
      have ec : c = 144 := by omega
      refine s_520_4 ⟨fun _ => by rw [ec]; exact hQ, fun h => by omega⟩
    | succ s ih =>
      intro c hc
      have hle : fcN f e c ≤ c := cntB_le _ _
      refine s_520_4 ⟨fun h => by omega, fun _ => ⟨by omega, ?_⟩⟩
      rw [Int.toNat_natCast, hf c (by omega)]
      refine ⟨fun _ => by omega, fun x ex => ⟨by omega, ?_⟩⟩
      have e' : x = (fcN f e (c + 1) : Int) := by
        rw [ex]
        unfold fcN
        by_cases q : fcC f c = e
        · rw [cntB_y (b := fun c => decide (fcC f c = e)) (decide_eq_true q), if_neg (fun g => g q)]; rfl
        · rw [cntB_n (b := fun c => decide (fcC f c = e)) (decide_eq_false q), if_pos q]
      rw [e']
      have := ih (c + 1) (by omega)
      rwa [show ((c + 1 : Nat) : Int) = (c : Int) + 1 by omega] at this
  exact key 144 0 (by omega)
theorem vE_N {f : Nat → Int} {N e : Nat} (h : IsN f N) (he : e < vE (lay f 1)) : 0 < N := Classical.byContradiction fun hn => by
  have h0 : N = 0 := by omega
  rw [h0] at h
  have := h.emp.2.1
  have e2 : vE (PL f 0) = vE (lay f 1) := rfl
  omega
theorem c519 {f : Nat → Int} {e : Nat} {w : Int} {M : Mm} {Q : Int → Mm → Prop} (hF : FrC M f (nP f)) (he : e < vE (lay f 1)) (hQ : Q (edV f e w) M) : E_519 (e : Int) w M Q := by
  obtain ⟨hI, hT, hk, -, hv, hE, -, hf⟩ := hF
  have h12 := hI.le
  have hG := EG.of hv
  have hN0 := vE_N hI he
  obtain ⟨b1, b2, b3, b4⟩ := hE.1.at hG he
  unfold edV at hQ
  refine s_519_0 ⟨fun hw => ?_, fun hw => ?_, fun hw => ?_, fun hw => ?_, fun hw => ?_, fun hw => ?_, fun hw => ?_⟩
  · rw [if_pos hw] at hQ; rw [b1]; exact hQ
  · rw [if_neg (by omega), if_pos hw] at hQ; rw [b2]; exact hQ
  · rw [if_neg (by omega), if_neg (by omega), if_pos hw] at hQ; rw [b3]; exact hQ
  · rw [if_neg (by omega), if_neg (by omega), if_neg (by omega), if_pos hw] at hQ; rw [b4]; exact hQ
  · rw [if_neg (by omega), if_neg (by omega), if_neg (by omega), if_neg (by omega), if_pos hw] at hQ
    have e0 : phV (M.1 5 0 11) 0 = 0 := by rw [hT.1.1]; exact phV_in (p := 0) (by omega) (by omega)
    rw [e0]
    obtain ⟨c1, c2, c3⟩ := conI_s hv he
    exact c211 (hk 0 hN0).2 (Sok.of (f := f) (k := 0) hv) c1 c2 c3 hQ
  · rw [if_neg (by omega), if_neg (by omega), if_neg (by omega), if_neg (by omega), if_neg (by omega), if_pos hw] at hQ
    exact c520 hf hQ
  · rw [if_neg (by omega), if_neg (by omega), if_neg (by omega), if_neg (by omega), if_neg (by omega), if_neg (by omega)] at hQ
    exact c521 hT.1.1 h12 (fun p hp => (hk p hp).2) hG hE he hQ
end Kinds

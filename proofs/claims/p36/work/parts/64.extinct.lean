/-! extinction by the reference; lengths; the contour of a side -/
theorem c211 {k i c : Nat} {P : Int → Int → Bool} {M : Mm} {Q : Int → Mm → Prop} (hC : Cls M k P) (hP : Sok P) (hc : c < vN P) (h1 : vS P c ≤ i) (h2 : i < vS P (c + 1)) (hQ : Q (c : Int) M) : E_211 k (i : Int) M Q := by
  refine s_211_0 ?_
  have h11 : M.1 2 k 11 = vN P := hC.2.2.2.1
  have h78 := hP.2.2.1
  have h312 := hP.2.2.2.1
  have key : ∀ (s c' : Nat), c' + s = c → L_211_2 k (i : Int) (c' : Int) M Q := by
    intro s
    induction s with
    | zero =>
      intro c' h
      have e : c' = c := by omega
      subst e
      obtain ⟨a1, a2, -⟩ := hC.2.2.1 c' hc
      have hm : vS P (c' + 1) ≤ vE P := hP.1.1.1.mono (c := c' + 1) (d := vN P) (by omega) (Nat.le_refl _)
      refine s_211_2 ⟨fun h => by omega, fun _ => ?_⟩
      rw [atN_i (by omega) (by omega), atN_i (by omega) (by omega), Int.toNat_natCast, a1, a2]
      exact ⟨by omega, fun h => by omega, fun _ => hQ⟩
    | succ s ih =>
      intro c' h
      have ih := ih (c' + 1) (by omega)
      obtain ⟨a1, a2, -⟩ := hC.2.2.1 c' (by omega)
      have hm : vS P (c' + 1) ≤ vS P c := hP.1.1.1.mono (c := c' + 1) (d := c) (by omega) (by omega)
      have hm2 : vS P c ≤ vE P := hP.1.1.1.mono (c := c) (d := vN P) (by omega) (Nat.le_refl _)
      refine s_211_2 ⟨fun h => by omega, fun _ => ?_⟩
      rw [atN_i (by omega) (by omega), atN_i (by omega) (by omega), Int.toNat_natCast, a1, a2]
      exact ⟨by omega, fun _ => ⟨by omega, ih⟩, fun h => by omega⟩
  exact key c 0 (by omega)

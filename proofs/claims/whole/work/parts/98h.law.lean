/-! the law's loop; its run -/
theorem l_end {n : Nat} {xs : Nat → Int} {q : Nat} {x : Int} {M : Mm} (c : (n : Int) - 6 < x) (h3 : n ≤ 3072) : Lw n xs q x M := by
  intro o5 o6
  refine Wl.path (k := 6) [1] (C := [inR ((n : Int) - 6), (n : Int) - 6 < x]) (pc' := 1876) (ls' := [some (.inr (.inr (51, 0))), some (.inr (.inr (9, 0))), some (.inr (.inr (10, 0))), some (.inr (.inr (50, 0))), some (.inl x), o5, o6]) (st' := []) (M' := M) rfl ⟨(by unfold inR; omega : inR ((n : Int) - 6)), c⟩ ?_
  refine Wl.path (k := 1) [] (C := []) (pc' := 1877) (ls' := [some (.inr (.inr (51, 0))), some (.inr (.inr (9, 0))), some (.inr (.inr (10, 0))), some (.inr (.inr (50, 0))), some (.inl x), o5, o6]) (st' := [.inl 1]) (M' := M) rfl trivial ?_
  exact Wl.ret rfl
theorem l_all {n : Nat} {xs : Nat → Int} (h3 : n ≤ 3072) : ∀ (q : Nat) (x : Int) (M : Mm), 0 ≤ x → x ≤ 4000 → (n : Int) < x + 6 * q + 6 → Inv M → Lw n xs q x M
  | 0, x, M, _, _, hn, _ => l_end (by omega) h3
  | q + 1, x, M, h0, hx, hn, h => l_head h0 hx h3 fun h6 => by
    have hK : ∀ M', Inv M' → Lw n xs q (x + 6) M' := fun M' h' => l_all h3 q (x + 6) M' (by omega) (by omega) (by omega) h'
    exact ⟨fun _ => k0 h hK, fun _ => k1 h hK, fun _ => k2 h hK, fun _ => k3 h hK, fun _ => k4 h hK, fun _ => k5 h hK, fun _ => k6 h hK, fun _ => k7 h hK, fun _ => k8 h hK, fun _ => k9 h hK, fun _ => k10 h hK, fun _ => k11 h hK, fun _ => k12 h hK, fun _ => k13 h hK, fun _ => k14 h hK, fun _ => k15 h hK, fun _ => k16 h hK, fun _ => k17 h hK, fun _ => k18 h hK, fun _ => k19 h hK, fun _ => k20 h hK, fun _ => k21 h hK, fun _ => k22 h hK, fun _ => k23 h hK, fun _ => k24 h hK, fun _ => k25 h hK, fun _ => k26 h hK, fun _ => k27 h hK, fun _ => k28 h hK, fun _ => k29 h hK, fun _ => k30 h hK, fun _ => k31 h hK, fun _ => k32 h hK, fun _ => hK M h⟩
theorem inv0 : Inv M0 := by
  have z : ∀ {t i k : Nat}, m0 t i k = 0 → 0 ≤ M0.1 t i k ∧ M0.1 t i k < 4096 := fun {t i k} e => by
    show 0 ≤ m0 t i k ∧ m0 t i k < 4096
    rw [e]
    decide
  refine ⟨⟨fun y _ => z rfl, fun y _ => rfl⟩, ⟨fun y _ => z rfl, Or.inl rfl, rfl, fun _ y _ => rfl⟩, ⟨0, 0, 0, ⟨rfl, by omega, rfl, rfl, rfl, rfl, by omega⟩, fun q _ => z rfl, fun y _ => rfl, fun j y hj => absurd hj (Nat.not_lt_zero j), fun j y hj => absurd hj (Nat.not_lt_zero j)⟩, ⟨0, rfl, by omega, rfl, fun i hi => absurd hi (Nat.not_lt_zero i), rfl⟩, ⟨⟨fun y _ => rfl, fun y _ => rfl⟩, rfl, fun q _ _ => rfl⟩, fun e => absurd rfl e, fun e => absurd rfl e⟩
theorem law_runs : LawRun := by
  intro L xs hL _
  have key : Wl L xs 512 20 st0L [] M0 := by
    refine Wl.path (k := 2) [] (C := []) (pc' := 23) (ls' := [some (.inr (.inr (51, 0))), some (.inr (.inr (9, 0))), some (.inr (.inr (10, 0))), some (.inr (.inr (50, 0))), some (.inl 0), none, none]) (st' := []) (M' := M0) rfl trivial ?_
    exact l_all hL 512 0 M0 (by omega) (by omega) (by omega) inv0 none none
  obtain ⟨q, M', hq, n, run⟩ := key
  exact ⟨n, q, M', hq, run⟩

/-! the reference's branch, down to its end -/
theorem c1049_46 {d N k b i : Nat} {x1 x2 x3 : Int} {cnt : Nat → Nat} {pr : Nat → Nat → Int} {M : Mm} {Q : Mm → Prop} (hT : MTr M N cnt pr) (hk : k < N) (hb : b < cnt k) (hi : i < 256)
    (hQ : (enF cnt pr 12 k b).1 < N → (enF cnt pr 12 k b).2 < cnt (enF cnt pr 12 k b).1 → L_1049_119 d x1 x2 x3 (i : Int) ((enF cnt pr 12 k b).1 : Int) ((enF cnt pr 12 k b).2 : Int) 0 (setI (setI (setI M 1146 0 i ((enF cnt pr 12 k b).1 : Int)) 1149 0 i (kdn cnt pr (enF cnt pr 12 k b).1 (enF cnt pr 12 k b).2 : Int)) 1150 0 i 1) Q) : L_1049_46 d x1 x2 x3 (i : Int) (k : Int) (b : Int) M Q := by
  have hN := hT.1.2.1
  generalize hen : enF cnt pr 12 k b = en at *
  obtain ⟨k', b'⟩ := en
  have key : ∀ (s k2 b2 : Nat), 12 ≤ k2 + s → k2 < N → b2 < cnt k2 → enF cnt pr s k2 b2 = (k', b') → L_1049_46 d x1 x2 x3 (i : Int) (k2 : Int) (b2 : Int) M Q := by
    intro s
    induction s with
    | zero => intro k2 b2 h1 h2; omega
    | succ s ih =>
      intro k2 b2 h1 h2 h3 he
      have h72 := (hT.2.1 k2 (by omega)).2
      have hv : M.1 1122 0 (80 * (k2 : Int) + (b2 : Int)).toNat = kdn cnt pr k2 b2 := by
        rw [show (80 * (k2 : Int) + (b2 : Int)).toNat = 80 * k2 + b2 by omega]
        exact (hT.2.2 k2 h2).2 b2 h3
      refine s_1049_46 ?_
      rw [hv]
      refine ⟨⟨by omega, by omega, by omega⟩, fun hne => ?_, fun heq => ?_⟩
      · have he2 := enF_e cnt pr (k := k2) (b := b2) (fun h => hne (by rw [h]; rfl)) (s + 1)
        rw [he] at he2
        have e1 : k' = k2 := congrArg Prod.fst he2
        have e2 : b' = b2 := congrArg Prod.snd he2
        subst e1
        subst e2
        refine ⟨by omega, fun M1 e1 => ?_⟩
        have q : M1.1 1122 0 = M.1 1122 0 := by rw [e1, setI_ne (by omega)]
        refine ⟨⟨by omega, by omega, by omega, by omega⟩, fun M2 e2 => ⟨by omega, fun M3 e3 => ?_⟩⟩
        rw [q, hv] at e2
        rw [e3, e2, e1, Int.toNat_natCast]
        exact hQ h2 h3
      · have h1' : kdn cnt pr k2 b2 = 1 := by omega
        obtain ⟨f1, -, -⟩ := fch_s (cnt := cnt) (pr := pr) (k := k2) (b := b2) (by omega)
        have hN1 : k2 + 1 < N := Classical.byContradiction fun hn => by
          have := hT.1.2.2 (k2 + 1) (by omega)
          omega
        rw [enF_s cnt pr h1'] at he
        refine c1048 hT (by omega) ⟨by omega, ?_⟩
        exact ih (k2 + 1) (fch cnt pr k2 b2) (by omega) hN1 f1 he
  exact key 12 k b (by omega) hk hb hen

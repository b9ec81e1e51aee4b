/-! all branches of the reference -/
theorem c1050_237 {N : Nat} {cnt : Nat → Nat} {pr : Nat → Nat → Int} {M : Mm} {Q : Mm → Prop} (hT : MTr M N cnt pr) (h0 : ∀ c, c < cnt 0 → pr 0 c = -1) (h44 : M.1 10 0 44 = 0) (hlen : (roots cnt pr).length ≤ 256) (hQ : ∀ M', Fx TMr M M' → (∀ q, q ≠ 44 → M'.1 10 0 q = M.1 10 0 q) → M'.1 10 0 44 = (roots cnt pr).length → MecL M' cnt pr 0 (roots cnt pr) → Wys (roots cnt pr).length (paL (roots cnt pr)) (M'.1 1150 0) → Q M') : L_1050_237 0 M Q := by
  have hN12 := hT.1.2.1
  generalize hp : (fun c => decide (pr 0 c = -1)) = p at *
  generalize hTT : (fun c j => trL cnt pr 13 0 c (-1) j) = T at *
  have hTc : ∀ c j, T c j = trL cnt pr 13 0 c (-1) j := fun c j => by rw [← hTT]
  have ero : roots cnt pr = kdA T p 0 (cnt 0) := by rw [← hTT, ← hp]; rfl
  have hTpos : ∀ c j, 0 < (T c j).length := fun c j => by rw [hTc]; exact trL_pos cnt pr
  have hle := @kdA_le T p 0 hTpos
  have hpc : ∀ c, c < cnt 0 → p c = true := fun c hc => by rw [← hp]; exact decide_eq_true (h0 c hc)
  have hrpa := fun t r => roots_pa (cnt := cnt) (pr := pr) (t := t) (r := r)
  have keep : ∀ {M' : Mm}, Fx TMr M M' → (∀ q, q ≠ 44 → M'.1 10 0 q = M.1 10 0 q) → MTr M' N cnt pr := fun hf h => hT.fx (h 18 (by omega)) fun t ht => (hf t 0 (by unfold TMr; omega)).1
  have key : ∀ (s c : Nat) (M' : Mm), c + s = cnt 0 → Fx TMr M M' → (∀ q, q ≠ 44 → M'.1 10 0 q = M.1 10 0 q) → M'.1 10 0 44 = ((kdA T p 0 c).length : Nat) → MecL M' cnt pr 0 (kdA T p 0 c) → WyR 0 (kdA T p 0 c).length (M'.1 1148 0) (M'.1 1150 0) → L_1050_237 (c : Int) M' Q := by
    intro s
    induction s with
    | zero =>
      intro c M' hc hf a0 a1 a4 a8
      have ec : c = cnt 0 := by omega
      subst ec
      have hT' := keep hf a0
      have fin : Q M' := by
        refine hQ M' hf a0 (by rw [ero]; exact a1) (by rw [ero]; exact a4) ?_
        rw [ero]
        intro a ha
        obtain ⟨b1, b2, b3, b4⟩ := a8 a (Nat.zero_le a) ha
        have hpaj : ∀ j, j < (kdA T p 0 (cnt 0)).length → paL (kdA T p 0 (cnt 0)) j = M'.1 1148 0 j := by
          intro j hj
          have hr : (kdA T p 0 (cnt 0))[j]? = some ((kdA T p 0 (cnt 0))[j]'hj) := List.getElem?_eq_getElem hj
          rw [paL_at hr]
          have := (a4 j _ hr).2.2.2.1
          rw [Nat.zero_add] at this
          exact this.symm
        refine ⟨b2, fun j _ j2 j3 => b3 j (Nat.zero_le j) j2 (by rw [← hpaj j j2]; exact j3), ?_⟩
        rcases b4 with q | ⟨j, j1, j2, j3, j4⟩
        · exact Or.inl q
        · exact Or.inr ⟨j, Nat.zero_le j, j2, by rw [hpaj j j2]; exact j3, j4⟩
      refine s_1050_237 ⟨fun _ => fin, fun h1 => ⟨fun _ => fin, fun h2 => ?_⟩⟩
      have := (hT'.2.1 0 (by omega)).1
      omega
    | succ s ihc =>
      intro c M' hc hf a0 a1 a4 a8
      have hT' := keep hf a0
      have hcl : c < cnt 0 := by omega
      have hN1 : 0 < N := Classical.byContradiction fun hn => by
        have := hT.1.2.2 0 (by omega)
        omega
      have h20 := hT'.2.1 0 (by omega)
      have h18 := hT'.1.1
      refine s_1050_237 ⟨fun h => by omega, fun _ => ⟨fun h => by omega, fun _ => ?_⟩⟩
      have hl := hle (show c + 1 ≤ cnt 0 from hcl)
      rw [kdA_y (hpc c hcl), List.length_append, hTc, Nat.zero_add] at hl
      have hpos : 0 < (trL cnt pr 13 0 c (-1) (kdA T p 0 c).length).length := trL_pos cnt pr
      have nxt := ihc (c + 1)
      rw [kdA_y (hpc c hcl), List.length_append, hTc, Nat.zero_add] at nxt
      have hpa := fun t r => trL_pa (cnt := cnt) (pr := pr) 13 0 c (-1) (kdA T p 0 c).length t r
      have hcm : cntB p (c + 1) ≤ cntB p (cnt 0) := cntB_mono (show c + 1 ≤ cnt 0 from hcl)
      rw [ero] at hlen
      refine c1049 13 0 c (kdA T p 0 c).length (-1) M' _ (by omega) hT' hN1 hcl (by omega) a1 (by omega) fun M6 f6 b0 b1 b4 b5 b8 => ⟨by omega, ?_⟩
      have := nxt M6 (by omega) (hf.tr f6) (fun q hq => by rw [b0 q hq]; exact a0 q hq) b1 ?_ ?_
      · rw [show (c : Int) + 1 = ((c + 1 : Nat) : Int) by omega]
        exact this
      · exact MecL.app (a4.fx (n := (kdA T p 0 c).length) (by omega) fun q hq t t1 t2 => b5 q hq t t1 (by omega)) (by rw [Nat.zero_add]; exact b4)
      · refine WyR.rt (a8.cg fun j _ j2 => ⟨b5 j j2 1148 (by omega) (by omega), b5 j j2 1150 (by omega) (by omega)⟩) b8 (Nat.zero_le _) (by omega) fun j j1 j2 => ?_
        have hlt : j - (kdA T p 0 c).length < (trL cnt pr 13 0 c (-1) (kdA T p 0 c).length).length := by omega
        have hr : (trL cnt pr 13 0 c (-1) (kdA T p 0 c).length)[j - (kdA T p 0 c).length]? = some ((trL cnt pr 13 0 c (-1) (kdA T p 0 c).length)[j - (kdA T p 0 c).length]'hlt) := List.getElem?_eq_getElem hlt
        have h48 := (b4 _ _ hr).2.2.2.1
        rw [show (kdA T p 0 c).length + (j - (kdA T p 0 c).length) = j by omega] at h48
        rw [h48]
        rcases hpa _ _ hr with ⟨-, r3⟩ | ⟨-, r3, -⟩
        · rw [r3]; exact Or.inl (by omega)
        · exact Or.inr r3
  exact key (cnt 0) 0 M (by omega) Fx.rf (fun _ _ => rfl) (by rw [h44]; rfl) (fun t r ht => by cases ht) fun a a1 a2 => by
    have : (kdA T p 0 0).length = 0 := rfl
    omega

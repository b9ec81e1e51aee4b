/-! all branches of the class -/
def roots (cnt : Nat → Nat) (pr : Nat → Nat → Int) : List Rc := kdA (fun c j => trL cnt pr 13 0 c (-1) j) (fun c => decide (pr 0 c = -1)) 0 (cnt 0)
theorem c701g {N : Nat} {cnt : Nat → Nat} {pr : Nat → Nat → Int} {M : Mm} {Q : Mm → Prop} (hT : CTr M N cnt pr) (hlen : (roots cnt pr).length ≤ 864)
    (hQ : ∀ M', Fx TGr M M' → M'.1 7 0 10 = (roots cnt pr).length → RecL M' cnt pr 0 (roots cnt pr) → E_704 M' Q) : E_701 M Q := by
  have hN12 := hT.1.2.1
  have keep : ∀ {M' : Mm}, Fx TGr M M' → CTr M' N cnt pr := fun hf => hT.fx fun t j ht => (hf t j (by unfold TGr; omega)).1
  refine s_701_0 fun M1 e1 M2 e2 => ?_
  have q7 : M2.1 7 0 = ups (ups (M.1 7 0) 10 0) 9 0 := by rw [e2, setI_at, e1, setI_at]
  have hf2 : Fx TGr M M2 := by rw [e2, e1]; exact (Fx.setI ⟨by omega, rfl⟩).tr (Fx.setI ⟨by omega, rfl⟩)
  have hT2 := keep hf2
  obtain ⟨o, o1, o2, o3, o4⟩ : ∃ o, phV (M2.1 5 0 11) 0 = o ∧ M2.1 3 o 10 = cnt 0 ∧ cnt 0 ≤ 72 ∧ ∀ c, c < cnt 0 → M2.1 407 o c = pr 0 c := by
    obtain ⟨⟨h1, h2, h3, h4⟩, h5⟩ := hT2
    by_cases hk : 0 < N
    · refine ⟨0, ?_, (h5 0 hk).1, (h5 0 hk).2.1, (h5 0 hk).2.2.1⟩
      exact phV_in (p := 0) (by omega) (by omega)
    · have h0 := h4 0 (by omega)
      refine ⟨12, ?_, by rw [h3, h0]; rfl, by omega, fun c hc => by omega⟩
      unfold phV
      rw [if_neg (by omega)]
  rw [o1]
  generalize hp : (fun c => decide (pr 0 c = -1)) = p at *
  generalize hTT : (fun c j => trL cnt pr 13 0 c (-1) j) = T at *
  have hTc : ∀ c j, T c j = trL cnt pr 13 0 c (-1) j := fun c j => by rw [← hTT]
  have ero : roots cnt pr = kdA T p 0 (cnt 0) := by rw [← hTT, ← hp]; rfl
  rw [ero] at hlen hQ
  have hTpos : ∀ c j, 0 < (T c j).length := fun c j => by rw [hTc]; exact trL_pos cnt pr
  have hle := @kdA_le T p 0 hTpos
  have hle0 := hle (Nat.zero_le (cnt 0))
  have z0 : (kdA T p 0 0).length = 0 := rfl
  have z1 : cntB p 0 = 0 := rfl
  rw [z0, z1] at hle0
  refine c702 (pr := pr 0) (m := 0) o2 o3 o4 (by rw [q7, ups_at]; rfl) (by rw [hp]; omega) fun M3 f3 g9 gq gS gC => ?_
  rw [hp] at g9 gC
  have key : ∀ (s c : Nat) (M' : Mm), c + s = cnt 0 → Fx TGr M M' → M'.1 7 0 10 = ((kdA T p 0 c).length : Nat) → M'.1 7 0 9 = (cntB p (cnt 0) - cntB p c : Nat) → RecL M' cnt pr 0 (kdA T p 0 c) → (∀ c', c ≤ c' → c' < cnt 0 → p c' = true → M'.1 806 0 (cntB p (cnt 0) - 1 - cntB p c') = 0 ∧ M'.1 807 0 (cntB p (cnt 0) - 1 - cntB p c') = c' ∧ M'.1 808 0 (cntB p (cnt 0) - 1 - cntB p c') = -1) → L_701_24 ((kdA T p 0 c).length : Int) M' Q := by
    intro s
    induction s with
    | zero =>
      intro c M' hc hf a1 a2 a4 a7
      have ec : c = cnt 0 := by omega
      subst ec
      have fin := hQ M' hf a1 a4
      have h9 : M'.1 7 0 9 = 0 := by rw [a2, Nat.sub_self]; rfl
      exact s_701_24 ⟨fun _ => fin, fun _ => ⟨fun _ => fin, fun h => by omega⟩⟩
    | succ s ihc =>
      intro c M' hc hf a1 a2 a4 a7
      have hcl : c < cnt 0 := by omega
      cases hpc : p c with
      | false =>
        have := ihc (c + 1) M' (by omega) hf
        rw [kdA_n hpc, cntB_n hpc] at this
        exact this a1 a2 a4 fun c' h1 h2 h3 => a7 c' (by omega) h2 h3
      | true =>
        have hN1 : 0 < N := Classical.byContradiction fun hn => by
          have := hT.1.2.2.2 0 (by omega)
          omega
        have hy := cntB_y hpc
        have hmono : cntB p (c + 1) ≤ cntB p (cnt 0) := cntB_mono hcl
        obtain ⟨b6, b7, b8⟩ := a7 c (Nat.le_refl c) hcl hpc
        have hl := hle (show c + 1 ≤ cnt 0 from hcl)
        rw [kdA_y hpc, List.length_append, hTc, Nat.zero_add] at hl
        have nxt := ihc (c + 1)
        rw [kdA_y hpc, List.length_append, hTc, Nat.zero_add] at nxt
        refine grow 13 0 c (kdA T p 0 c).length (cntB p (cnt 0) - 1 - cntB p c) (-1) M' Q (by omega) (keep hf) hN1 hcl a1 (by rw [a2]; omega) (by rw [b6]; rfl) b7 b8 (by omega) fun M3 f3 c10 c9 cR cO cS => ?_
        have := nxt M3 (by omega) (hf.tr f3) c10 (by rw [c9]; omega) ((a4.fx (n := (kdA T p 0 c).length) (by omega) cO).app (by rw [Nat.zero_add]; exact cR)) (fun c' h1 h2 h3 => ?_)
        · exact this
        · have hc1 : cntB p (c + 1) ≤ cntB p c' := cntB_mono h1
          have hc2 : cntB p (c' + 1) ≤ cntB p (cnt 0) := cntB_mono h2
          rw [cntB_y h3] at hc2
          obtain ⟨d6, d7, d8⟩ := cS (cntB p (cnt 0) - 1 - cntB p c') (by omega)
          rw [d6, d7, d8]; exact a7 c' (by omega) h2 h3
  refine key (cnt 0) 0 M3 (by omega) (hf2.tr (f3.up fun t j h => ⟨by unfold TSt at h; omega, h.2⟩)) ?_ (by rw [g9, Nat.zero_add]; rfl) (fun t r ht => by cases ht) (fun c' _ h2 h3 => ?_)
  · rw [gq 10 (by omega), q7, ups_ne (by omega), ups_at]; rfl
  · have hpc : pr 0 c' = -1 := by rw [← hp] at h3; exact of_decide_eq_true h3
    have := gC c' h2 hpc
    rwa [Nat.zero_add] at this

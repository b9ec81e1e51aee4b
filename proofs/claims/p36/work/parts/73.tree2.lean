/-! the class's tree -/
theorem enF_ge (cnt : Nat → Nat) (pr : Nat → Nat → Int) : ∀ F k b, k ≤ (enF cnt pr F k b).1
  | 0, k, _ => Nat.le_refl k
  | F + 1, k, b => by
    show k ≤ (if kdn cnt pr k b = 1 then enF cnt pr F (k + 1) (fch cnt pr k b) else (k, b)).1
    split
    · have := enF_ge cnt pr F (k + 1) (fch cnt pr k b)
      omega
    · exact Nat.le_refl k
/-- branches lie in memory from place i on -/
def RecL (M : Mm) (cnt : Nat → Nat) (pr : Nat → Nat → Int) (i : Nat) (l : List Rc) : Prop := ∀ t r, l[t]? = some r → RecC M cnt pr (i + t) r
theorem RecC.fx {M M' : Mm} {cnt : Nat → Nat} {pr : Nat → Nat → Int} {i : Nat} {r : Rc} (h : RecC M cnt pr i r) (e : ∀ t, 800 ≤ t → t ≤ 804 → M'.1 t 0 i = M.1 t 0 i) : RecC M' cnt pr i r := by
  unfold RecC
  rw [e 800 (by omega) (by omega), e 801 (by omega) (by omega), e 802 (by omega) (by omega), e 803 (by omega) (by omega), e 804 (by omega) (by omega)]
  exact h
theorem RecL.fx {M M' : Mm} {cnt : Nat → Nat} {pr : Nat → Nat → Int} {i n : Nat} {l : List Rc} (h : RecL M cnt pr i l) (hn : i + l.length ≤ n) (e : ∀ q, q < n → ∀ t, 800 ≤ t → t ≤ 804 → M'.1 t 0 q = M.1 t 0 q) : RecL M' cnt pr i l := by
  intro t r ht
  have : t < l.length := by
    rcases Nat.lt_or_ge t l.length with g | g
    · exact g
    · rw [List.getElem?_eq_none g] at ht; cases ht
  exact (h t r ht).fx fun u u1 u2 => e (i + t) (by omega) u u1 u2
theorem RecL.app {M : Mm} {cnt : Nat → Nat} {pr : Nat → Nat → Int} {i : Nat} {l l' : List Rc} (h : RecL M cnt pr i l) (g : RecL M cnt pr (i + l.length) l') : RecL M cnt pr i (l ++ l') := by
  intro t r ht
  rcases Nat.lt_or_ge t l.length with k | k
  · rw [List.getElem?_append_left k] at ht
    exact h t r ht
  · rw [List.getElem?_append_right k] at ht
    have := g (t - l.length) r ht
    rwa [show i + l.length + (t - l.length) = i + t by omega] at this
theorem grow {N : Nat} {cnt : Nat → Nat} {pr : Nat → Nat → Int} : ∀ (F k b i m : Nat) (iv : Int) (M : Mm) (Q : Mm → Prop), 13 ≤ F + k → CTr M N cnt pr → k < N → b < cnt k → M.1 7 0 10 = i → M.1 7 0 9 = (m + 1 : Nat) → M.1 806 0 m = k → M.1 807 0 m = b → M.1 808 0 m = iv → i + (trL cnt pr F k b iv i).length + m ≤ 864 → (∀ M', Fx TGr M M' → M'.1 7 0 10 = (i + (trL cnt pr F k b iv i).length : Nat) → M'.1 7 0 9 = m → RecL M' cnt pr i (trL cnt pr F k b iv i) → (∀ q, q < i → ∀ t, 800 ≤ t → t ≤ 804 → M'.1 t 0 q = M.1 t 0 q) → (∀ q, q < m → M'.1 806 0 q = M.1 806 0 q ∧ M'.1 807 0 q = M.1 807 0 q ∧ M'.1 808 0 q = M.1 808 0 q) → L_701_24 ((i + (trL cnt pr F k b iv i).length : Nat) : Int) M' Q) → L_701_24 (i : Int) M Q := by
  intro F
  induction F with
  | zero =>
    intro k b i m iv M Q hF hT hk
    have := hT.1.2.1
    omega
  | succ F ih =>
    intro k b i m iv M Q hF hT hk hb h10 h9 s6 s7 s8 hlen hQ
    have hN12 := hT.1.2.1
    have hge := enF_ge cnt pr 12 k b
    have etr : trL cnt pr (F + 1) k b iv i = (k, b, (enF cnt pr 12 k b).1, (enF cnt pr 12 k b).2, iv) :: kdA (fun c j => trL cnt pr F ((enF cnt pr 12 k b).1 + 1) c (i : Int) j) (isK pr (enF cnt pr 12 k b).1 (enF cnt pr 12 k b).2) (i + 1) (cnt ((enF cnt pr 12 k b).1 + 1)) := rfl
    rw [etr] at hlen hQ
    rw [List.length_cons] at hlen
    have hFpos : ∃ F', F = F' + 1 := ⟨F - 1, by omega⟩
    have hTpos : ∀ c j, 0 < ((fun c j => trL cnt pr F ((enF cnt pr 12 k b).1 + 1) c (i : Int) j) c j).length := by
      obtain ⟨F', rfl⟩ := hFpos
      exact fun c j => trL_pos cnt pr
    have hle := @kdA_le (fun c j => trL cnt pr F ((enF cnt pr 12 k b).1 + 1) c (i : Int) j) (isK pr (enF cnt pr 12 k b).1 (enF cnt pr 12 k b).2) (i + 1) hTpos
    have hkd : kdn cnt pr (enF cnt pr 12 k b).1 (enF cnt pr 12 k b).2 = cntB (isK pr (enF cnt pr 12 k b).1 (enF cnt pr 12 k b).2) (cnt ((enF cnt pr 12 k b).1 + 1)) := rfl
    have hle0 := hle (Nat.zero_le (cnt ((enF cnt pr 12 k b).1 + 1)))
    have z0 : (kdA (fun c j => trL cnt pr F ((enF cnt pr 12 k b).1 + 1) c (i : Int) j) (isK pr (enF cnt pr 12 k b).1 (enF cnt pr 12 k b).2) (i + 1) 0).length = 0 := rfl
    have z1 : cntB (isK pr (enF cnt pr 12 k b).1 (enF cnt pr 12 k b).2) 0 = 0 := rfl
    rw [z0, z1] at hle0
    refine s_701_24 ⟨fun h => by omega, fun _ => ⟨fun h => by omega, fun _ => ⟨by omega, fun M1 e1 => ?_⟩⟩⟩
    have q7 : M1.1 7 0 = ups (M.1 7 0) 9 (((m + 1 : Nat) : Int) - 1) := by rw [e1, setI_at, h9]
    have q9 : M1.1 7 0 9 = m := by rw [q7, ups_at]; omega
    have q10 : M1.1 7 0 10 = i := by rw [q7, ups_ne (by omega)]; exact h10
    have t6 : M1.1 806 0 = M.1 806 0 := by rw [e1, setI_ne (by omega)]
    have t7 : M1.1 807 0 = M.1 807 0 := by rw [e1, setI_ne (by omega)]
    have t8 : M1.1 808 0 = M.1 808 0 := by rw [e1, setI_ne (by omega)]
    have hf1 : Fx TGr M M1 := by rw [e1]; exact Fx.setI ⟨by omega, rfl⟩
    have keep : ∀ {M' : Mm}, Fx TGr M M' → CTr M' N cnt pr := fun hf => hT.fx fun t j ht => (hf t j (by unfold TGr; omega)).1
    rw [q9, t6, t7, t8, atN_i (by omega) (by omega), atN_i (by omega) (by omega), atN_i (by omega) (by omega), Int.toNat_natCast, s6, s7, s8]
    refine c703 (keep hf1) hk hb q10 q9 (by omega) (by omega) fun M2 f2 g10 g9 gR gO gS gC => ⟨by omega, ?_⟩
    generalize hkk : (enF cnt pr 12 k b).1 = k' at *
    generalize hbb : (enF cnt pr 12 k b).2 = b' at *
    generalize hp : isK pr k' b' = p at *
    generalize hTT : (fun c j => trL cnt pr F (k' + 1) c (i : Int) j) = T at *
    have hTc : ∀ c j, T c j = trL cnt pr F (k' + 1) c (i : Int) j := fun c j => by rw [← hTT]
    have key : ∀ (s c : Nat) (M' : Mm), c + s = cnt (k' + 1) → Fx TGr M M' → M'.1 7 0 10 = (i + 1 + (kdA T p (i + 1) c).length : Nat) → M'.1 7 0 9 = (m + (cntB p (cnt (k' + 1)) - cntB p c) : Nat) → RecC M' cnt pr i (k, b, k', b', iv) → RecL M' cnt pr (i + 1) (kdA T p (i + 1) c) → (∀ q, q < i → ∀ t, 800 ≤ t → t ≤ 804 → M'.1 t 0 q = M.1 t 0 q) → (∀ q, q < m → M'.1 806 0 q = M.1 806 0 q ∧ M'.1 807 0 q = M.1 807 0 q ∧ M'.1 808 0 q = M.1 808 0 q) → (∀ c', c ≤ c' → c' < cnt (k' + 1) → p c' = true → M'.1 806 0 (m + (cntB p (cnt (k' + 1)) - 1 - cntB p c')) = (k' : Int) + 1 ∧ M'.1 807 0 (m + (cntB p (cnt (k' + 1)) - 1 - cntB p c')) = c' ∧ M'.1 808 0 (m + (cntB p (cnt (k' + 1)) - 1 - cntB p c')) = i) → L_701_24 ((i + 1 + (kdA T p (i + 1) c).length : Nat) : Int) M' Q := by
      intro s
      induction s with
      | zero =>
        intro c M' hc hf a1 a2 a3 a4 a5 a6 a7
        have ec : c = cnt (k' + 1) := by omega
        subst ec
        have := hQ M' hf
        rw [List.length_cons, show i + ((kdA T p (i + 1) (cnt (k' + 1))).length + 1) = i + 1 + (kdA T p (i + 1) (cnt (k' + 1))).length by omega] at this
        refine this a1 (by rw [a2, Nat.sub_self]; rfl) (fun t r ht => ?_) a5 a6
        cases t with
        | zero =>
          rw [List.getElem?_cons_zero] at ht
          cases ht
          exact a3
        | succ t =>
          rw [List.getElem?_cons_succ] at ht
          have := a4 t r ht
          rwa [show i + 1 + t = i + (t + 1) by omega] at this
      | succ s ihc =>
        intro c M' hc hf a1 a2 a3 a4 a5 a6 a7
        have hcl : c < cnt (k' + 1) := by omega
        cases hpc : p c with
        | false =>
          have := ihc (c + 1) M' (by omega) hf
          rw [kdA_n hpc, cntB_n hpc] at this
          exact this a1 a2 a3 a4 a5 a6 fun c' h1 h2 h3 => a7 c' (by omega) h2 h3
        | true =>
          have hN1 : k' + 1 < N := Classical.byContradiction fun hn => by
            have := hT.1.2.2.2 (k' + 1) (by omega)
            omega
          have hy := cntB_y hpc
          have hmono : cntB p (c + 1) ≤ cntB p (cnt (k' + 1)) := cntB_mono hcl
          obtain ⟨b6, b7, b8⟩ := a7 c (Nat.le_refl c) hcl hpc
          have hl := hle (show c + 1 ≤ cnt (k' + 1) from hcl)
          rw [kdA_y hpc, List.length_append, hTc] at hl
          have nxt := ihc (c + 1)
          rw [kdA_y hpc, List.length_append, hTc] at nxt
          refine ih (k' + 1) c (i + 1 + (kdA T p (i + 1) c).length) (m + (cntB p (cnt (k' + 1)) - 1 - cntB p c)) (i : Int) M' Q (by omega) (keep hf) hN1 hcl a1 (by rw [a2]; omega) (by rw [b6]; omega) b7 b8 (by omega) fun M3 f3 c10 c9 cR cO cS => ?_
          have := nxt M3 (by omega) (hf.tr f3) (by rw [c10]; omega) (by rw [c9]; omega) (a3.fx fun t t1 t2 => cO i (by omega) t t1 t2) ((a4.fx (Nat.le_refl _) cO).app cR) (fun q hq t t1 t2 => by rw [cO q (by omega) t t1 t2]; exact a5 q hq t t1 t2) (fun q hq => ?_) (fun c' h1 h2 h3 => ?_)
          · rw [show i + 1 + ((kdA T p (i + 1) c).length + (trL cnt pr F (k' + 1) c (i : Int) (i + 1 + (kdA T p (i + 1) c).length)).length) = i + 1 + (kdA T p (i + 1) c).length + (trL cnt pr F (k' + 1) c (i : Int) (i + 1 + (kdA T p (i + 1) c).length)).length by omega] at this
            exact this
          · obtain ⟨d6, d7, d8⟩ := cS q (by omega)
            rw [d6, d7, d8]; exact a6 q hq
          · have hc1 : cntB p (c + 1) ≤ cntB p c' := cntB_mono h1
            have hc2 : cntB p (c' + 1) ≤ cntB p (cnt (k' + 1)) := cntB_mono h2
            rw [cntB_y h3] at hc2
            obtain ⟨d6, d7, d8⟩ := cS (m + (cntB p (cnt (k' + 1)) - 1 - cntB p c')) (by omega)
            rw [d6, d7, d8]; exact a7 c' (by omega) h2 h3
    rw [hkd] at g9 gC
    have fin := key (cnt (k' + 1)) 0 M2 (by omega) (hf1.tr f2) g10 (by rw [g9]; rfl) gR (fun t r ht => by cases ht) (fun q hq t t1 t2 => by rw [gO q hq t t1 t2, e1, setI_ne (by omega)]) (fun q hq => by
      obtain ⟨d6, d7, d8⟩ := gS q hq
      rw [d6, d7, d8, t6, t7, t8]; exact ⟨rfl, rfl, rfl⟩) (fun c' _ h2 h3 => gC c' h2 h3)
    exact fin

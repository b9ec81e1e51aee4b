/-! the reference grows a branch with all below it -/
def TMr (t j : Nat) : Prop := (t = 10 ∨ (1145 ≤ t ∧ t ≤ 1150)) ∧ j = 0
def MecC (M : Mm) (cnt : Nat → Nat) (pr : Nat → Nat → Int) (i : Nat) (r : Rc) : Prop := M.1 1145 0 i = r.1 ∧ M.1 1146 0 i = r.2.2.1 ∧ M.1 1147 0 i = r.2.1 ∧ M.1 1148 0 i = r.2.2.2.2 ∧ M.1 1149 0 i = kdn cnt pr r.2.2.1 r.2.2.2.1
def MecL (M : Mm) (cnt : Nat → Nat) (pr : Nat → Nat → Int) (i : Nat) (l : List Rc) : Prop := ∀ t r, l[t]? = some r → MecC M cnt pr (i + t) r
theorem MecC.fx {M M' : Mm} {cnt : Nat → Nat} {pr : Nat → Nat → Int} {i : Nat} {r : Rc} (h : MecC M cnt pr i r) (e : ∀ t, 1145 ≤ t → t ≤ 1149 → M'.1 t 0 i = M.1 t 0 i) : MecC M' cnt pr i r := by
  unfold MecC
  rw [e 1145 (by omega) (by omega), e 1146 (by omega) (by omega), e 1147 (by omega) (by omega), e 1148 (by omega) (by omega), e 1149 (by omega) (by omega)]
  exact h
theorem MecL.fx {M M' : Mm} {cnt : Nat → Nat} {pr : Nat → Nat → Int} {i n : Nat} {l : List Rc} (h : MecL M cnt pr i l) (hn : i + l.length ≤ n) (e : ∀ q, q < n → ∀ t, 1145 ≤ t → t ≤ 1149 → M'.1 t 0 q = M.1 t 0 q) : MecL M' cnt pr i l := by
  intro t r ht
  have : t < l.length := by
    rcases Nat.lt_or_ge t l.length with g | g
    · exact g
    · rw [List.getElem?_eq_none g] at ht; cases ht
  exact (h t r ht).fx fun u u1 u2 => e (i + t) (by omega) u u1 u2
theorem MecL.app {M : Mm} {cnt : Nat → Nat} {pr : Nat → Nat → Int} {i : Nat} {l l' : List Rc} (h : MecL M cnt pr i l) (g : MecL M cnt pr (i + l.length) l') : MecL M cnt pr i (l ++ l') := by
  intro t r ht
  rcases Nat.lt_or_ge t l.length with k | k
  · rw [List.getElem?_append_left k] at ht
    exact h t r ht
  · rw [List.getElem?_append_right k] at ht
    have := g (t - l.length) r ht
    rwa [show i + l.length + (t - l.length) = i + t by omega] at this
/-- the ways of branches i to e, closed in themselves -/
def WyR (i e : Nat) (pa : Nat → Int) (w : Nat → Int) : Prop := ∀ a, i ≤ a → a < e → pa a < a ∧ (1 ≤ w a ∧ w a ≤ (e : Int) - a) ∧ (∀ j, i ≤ j → j < e → pa j = a → w j + 1 ≤ w a) ∧ (w a = 1 ∨ ∃ j, i ≤ j ∧ j < e ∧ pa j = a ∧ w a = w j + 1)
theorem WyR.cg {i e : Nat} {pa pa' w w' : Nat → Int} (h : WyR i e pa w) (h1 : ∀ j, i ≤ j → j < e → pa' j = pa j ∧ w' j = w j) : WyR i e pa' w' := by
  intro a a1 a2
  obtain ⟨b1, b2, b3, b4⟩ := h a a1 a2
  obtain ⟨q1, q2⟩ := h1 a a1 a2
  rw [q1, q2]
  refine ⟨b1, b2, fun j j1 j2 j3 => ?_, ?_⟩
  · obtain ⟨p1, p2⟩ := h1 j j1 j2
    rw [p2]; exact b3 j j1 j2 (by rw [← p1]; exact j3)
  · rcases b4 with g | ⟨j, j1, j2, j3, j4⟩
    · exact Or.inl g
    · obtain ⟨p1, p2⟩ := h1 j j1 j2
      exact Or.inr ⟨j, j1, j2, by rw [p1]; exact j3, by rw [p2]; exact j4⟩
/-- a further root -/
theorem WyR.rt {i e e' : Nat} {pa w : Nat → Int} (h : WyR i e pa w) (g : WyR e e' pa w) (hie : i ≤ e) (hee : e ≤ e') (h0 : ∀ j, e ≤ j → j < e' → pa j < i ∨ (e : Int) ≤ pa j) : WyR i e' pa w := by
  intro a a1 a2
  by_cases k : a < e
  · obtain ⟨b1, b2, b3, b4⟩ := h a a1 k
    refine ⟨b1, by omega, fun j j1 j2 j3 => ?_, ?_⟩
    · by_cases kj : j < e
      · exact b3 j j1 kj j3
      · have := h0 j (by omega) j2
        omega
    · rcases b4 with q | ⟨j, j1, j2, j3⟩
      · exact Or.inl q
      · exact Or.inr ⟨j, j1, by omega, j3⟩
  · obtain ⟨b1, b2, b3, b4⟩ := g a (by omega) a2
    refine ⟨b1, by omega, fun j j1 j2 j3 => ?_, ?_⟩
    · by_cases kj : j < e
      · have := (h j j1 kj).1
        omega
      · exact b3 j (by omega) j2 j3
    · rcases b4 with q | ⟨j, j1, j2, j3⟩
      · exact Or.inl q
      · exact Or.inr ⟨j, by omega, j2, j3⟩
/-- a further child of branch i -/
theorem WyR.st {i e e' : Nat} {pa w : Nat → Int} {b : Int} (h : WyR i e pa w) (g : WyR e e' pa w) (hie : i < e) (hee : e < e') (hpe : pa e = i) (hp : ∀ j, e < j → j < e' → (e : Int) ≤ pa j) (hb : b = if w e + 1 ≤ w i then w i else w e + 1) : WyR i e' pa (ups w i b) := by
  have hgb := (g e (Nat.le_refl e) hee).2.1
  have hhb := (h i (Nat.le_refl i) hie).2.1
  have hbb : w i ≤ b ∧ w e + 1 ≤ b ∧ (b = w i ∨ b = w e + 1) := by rw [hb]; split <;> omega
  intro a a1 a2
  by_cases k : a < e
  · obtain ⟨b1, b2, b3, b4⟩ := h a a1 k
    by_cases ka : a = i
    · rw [ka, ups_at]
      rw [ka] at b1 b2 b3 b4
      refine ⟨b1, by omega, fun j j1 j2 j3 => ?_, ?_⟩
      · by_cases kj : j < e
        · by_cases ji : j = i
          · rw [ji] at j3; omega
          · rw [ups_ne ji]
            have := b3 j j1 kj j3
            omega
        · by_cases je : j = e
          · rw [je, ups_ne (by omega)]; omega
          · have := hp j (by omega) j2
            omega
      · rcases hbb.2.2 with q | q
        · rw [q]
          rcases b4 with q2 | ⟨j, j1, j2, j3, j4⟩
          · exact Or.inl q2
          · have : j ≠ i := fun z => by rw [z] at j3; omega
            exact Or.inr ⟨j, j1, by omega, j3, by rw [ups_ne this]; exact j4⟩
        · exact Or.inr ⟨e, by omega, hee, hpe, by rw [ups_ne (by omega)]; exact q⟩
    · rw [ups_ne ka]
      refine ⟨b1, by omega, fun j j1 j2 j3 => ?_, ?_⟩
      · by_cases kj : j < e
        · have ji : j ≠ i := fun z => by
            have := (h i (Nat.le_refl i) hie).1
            rw [z] at j3; omega
          rw [ups_ne ji]
          exact b3 j j1 kj j3
        · by_cases je : j = e
          · rw [je] at j3; omega
          · have := hp j (by omega) j2
            omega
      · rcases b4 with q2 | ⟨j, j1, j2, j3, j4⟩
        · exact Or.inl q2
        · have ji : j ≠ i := fun z => by
            have := (h i (Nat.le_refl i) hie).1
            rw [z] at j3; omega
          exact Or.inr ⟨j, j1, by omega, j3, by rw [ups_ne ji]; exact j4⟩
  · obtain ⟨b1, b2, b3, b4⟩ := g a (by omega) a2
    rw [ups_ne (by omega)]
    refine ⟨b1, by omega, fun j j1 j2 j3 => ?_, ?_⟩
    · by_cases kj : j < e
      · have := (h j j1 kj).1
        omega
      · rw [ups_ne (by omega)]
        exact b3 j (by omega) j2 j3
    · rcases b4 with q2 | ⟨j, j1, j2, j3, j4⟩
      · exact Or.inl q2
      · exact Or.inr ⟨j, by omega, j2, j3, by rw [ups_ne (by omega)]; exact j4⟩
theorem c1049 {N : Nat} {cnt : Nat → Nat} {pr : Nat → Nat → Int} : ∀ (F k b i : Nat) (iv : Int) (M : Mm) (Q : Mm → Prop), 13 ≤ F + k → MTr M N cnt pr → k < N → b < cnt k → iv < i → M.1 10 0 44 = i → i + (trL cnt pr F k b iv i).length ≤ 256 → (∀ M', Fx TMr M M' → (∀ q, q ≠ 44 → M'.1 10 0 q = M.1 10 0 q) → M'.1 10 0 44 = (i + (trL cnt pr F k b iv i).length : Nat) → MecL M' cnt pr i (trL cnt pr F k b iv i) → (∀ q, q < i → ∀ t, 1145 ≤ t → t ≤ 1150 → M'.1 t 0 q = M.1 t 0 q) → WyR i (i + (trL cnt pr F k b iv i).length) (M'.1 1148 0) (M'.1 1150 0) → Q M') → E_1049 F (k : Int) (b : Int) iv M Q := by
  intro F
  induction F with
  | zero =>
    intro k b i iv M Q hF hT hk
    have := hT.1.2.1
    omega
  | succ F ih =>
    intro k b i iv M Q hF hT hk hb hiv h44 hlen hQ
    have hN12 := hT.1.2.1
    have hge := enF_ge cnt pr 12 k b
    have etr : trL cnt pr (F + 1) k b iv i = (k, b, (enF cnt pr 12 k b).1, (enF cnt pr 12 k b).2, iv) :: kdA (fun c j => trL cnt pr F ((enF cnt pr 12 k b).1 + 1) c (i : Int) j) (isK pr (enF cnt pr 12 k b).1 (enF cnt pr 12 k b).2) (i + 1) (cnt ((enF cnt pr 12 k b).1 + 1)) := rfl
    rw [etr] at hlen hQ
    rw [List.length_cons] at hlen hQ
    have keep : ∀ {M' : Mm}, Fx TMr M M' → (∀ q, q ≠ 44 → M'.1 10 0 q = M.1 10 0 q) → MTr M' N cnt pr := fun hf h => hT.fx (h 18 (by omega)) fun t ht => (hf t 0 (by unfold TMr; omega)).1
    refine s_1049_0 fun x4 e4 => ?_
    have ex4 : x4 = i := by rw [e4]; exact h44
    subst ex4
    rw [h44]
    refine ⟨by omega, fun M1 e1 => ⟨by omega, fun M2 e2 => ⟨by omega, fun M3 e3 => ⟨by omega, fun M4 e4 => ?_⟩⟩⟩⟩
    rw [Int.toNat_natCast] at e2 e3 e4
    have f4 : Fx TMr M M4 := by
      rw [e4, e3, e2, e1]
      exact (((Fx.setI ⟨by omega, rfl⟩).tr (Fx.setI ⟨by omega, rfl⟩)).tr (Fx.setI ⟨by omega, rfl⟩)).tr (Fx.setI ⟨by omega, rfl⟩)
    have g10 : M4.1 10 0 = ups (M.1 10 0) 44 ((i : Int) + 1) := by rw [e4, setI_ne (by omega), e3, setI_ne (by omega), e2, setI_ne (by omega), e1, setI_at]
    refine c1049_46 (keep f4 fun q hq => by rw [g10, ups_ne hq]) hk hb (by omega) fun hk' hb' => ?_
    generalize hM5 : setI (setI (setI M4 1146 0 i ((enF cnt pr 12 k b).1 : Int)) 1149 0 i (kdn cnt pr (enF cnt pr 12 k b).1 (enF cnt pr 12 k b).2 : Int)) 1150 0 i 1 = M5
    have f5 : Fx TMr M M5 := by
      rw [← hM5]
      exact ((f4.tr (Fx.setI ⟨by omega, rfl⟩)).tr (Fx.setI ⟨by omega, rfl⟩)).tr (Fx.setI ⟨by omega, rfl⟩)
    have k10 : M5.1 10 0 = ups (M.1 10 0) 44 ((i : Int) + 1) := by rw [← hM5, setI_ne (by omega), setI_ne (by omega), setI_ne (by omega), g10]
    have k45 : M5.1 1145 0 = ups (M.1 1145 0) i (k : Int) := by rw [← hM5, setI_ne (by omega), setI_ne (by omega), setI_ne (by omega), e4, setI_ne (by omega), e3, setI_ne (by omega), e2, setI_at, e1, setI_ne (by omega)]
    have k46 : M5.1 1146 0 = ups (M.1 1146 0) i ((enF cnt pr 12 k b).1 : Int) := by rw [← hM5, setI_ne (by omega), setI_ne (by omega), setI_at, e4, setI_ne (by omega), e3, setI_ne (by omega), e2, setI_ne (by omega), e1, setI_ne (by omega)]
    have k47 : M5.1 1147 0 = ups (M.1 1147 0) i (b : Int) := by rw [← hM5, setI_ne (by omega), setI_ne (by omega), setI_ne (by omega), e4, setI_ne (by omega), e3, setI_at, e2, setI_ne (by omega), e1, setI_ne (by omega)]
    have k48 : M5.1 1148 0 = ups (M.1 1148 0) i iv := by rw [← hM5, setI_ne (by omega), setI_ne (by omega), setI_ne (by omega), e4, setI_at, e3, setI_ne (by omega), e2, setI_ne (by omega), e1, setI_ne (by omega)]
    have k49 : M5.1 1149 0 = ups (M.1 1149 0) i (kdn cnt pr (enF cnt pr 12 k b).1 (enF cnt pr 12 k b).2 : Int) := by rw [← hM5, setI_ne (by omega), setI_at, setI_ne (by omega), e4, setI_ne (by omega), e3, setI_ne (by omega), e2, setI_ne (by omega), e1, setI_ne (by omega)]
    have k50 : M5.1 1150 0 = ups (M.1 1150 0) i 1 := by rw [← hM5, setI_at, setI_ne (by omega), setI_ne (by omega), e4, setI_ne (by omega), e3, setI_ne (by omega), e2, setI_ne (by omega), e1, setI_ne (by omega)]
    clear hM5 e4 e3 e2 e1 g10 f4
    generalize hkk : (enF cnt pr 12 k b).1 = k' at *
    generalize hbb : (enF cnt pr 12 k b).2 = b' at *
    have hFpos : ∃ F', F = F' + 1 := ⟨F - 1, by omega⟩
    have hTpos : ∀ c j, 0 < ((fun c j => trL cnt pr F (k' + 1) c (i : Int) j) c j).length := by
      obtain ⟨F', rfl⟩ := hFpos
      exact fun c j => trL_pos cnt pr
    have hle := @kdA_le (fun c j => trL cnt pr F (k' + 1) c (i : Int) j) (isK pr k' b') (i + 1) hTpos
    generalize hp : isK pr k' b' = p at *
    generalize hTT : (fun c j => trL cnt pr F (k' + 1) c (i : Int) j) = T at *
    have hTc : ∀ c j, T c j = trL cnt pr F (k' + 1) c (i : Int) j := fun c j => by rw [← hTT]
    have key : ∀ (s c : Nat) (M' : Mm), c + s = cnt (k' + 1) → Fx TMr M M' → (∀ q, q ≠ 44 → M'.1 10 0 q = M.1 10 0 q) → M'.1 10 0 44 = (i + 1 + (kdA T p (i + 1) c).length : Nat) → MecC M' cnt pr i (k, b, k', b', iv) → MecL M' cnt pr (i + 1) (kdA T p (i + 1) c) → (∀ q, q < i → ∀ t, 1145 ≤ t → t ≤ 1150 → M'.1 t 0 q = M.1 t 0 q) → WyR i (i + 1 + (kdA T p (i + 1) c).length) (M'.1 1148 0) (M'.1 1150 0) → L_1049_119 F (k : Int) (b : Int) iv (i : Int) (k' : Int) (b' : Int) (c : Int) M' Q := by
      intro s
      induction s with
      | zero =>
        intro c M' hc hf a0 a1 a3 a4 a5 a8
        have ec : c = cnt (k' + 1) := by omega
        subst ec
        have hT' := keep hf a0
        have fin : Q M' := by
          have := hQ M' hf a0
          rw [show i + ((kdA T p (i + 1) (cnt (k' + 1))).length + 1) = i + 1 + (kdA T p (i + 1) (cnt (k' + 1))).length by omega] at this
          refine this a1 (fun t r ht => ?_) a5 a8
          cases t with
          | zero =>
            rw [List.getElem?_cons_zero] at ht
            cases ht
            exact a3
          | succ t =>
            rw [List.getElem?_cons_succ] at ht
            have := a4 t r ht
            rwa [show i + 1 + t = i + (t + 1) by omega] at this
        refine s_1049_119 ⟨by omega, fun _ => fin, fun h1 => ⟨⟨by omega, by omega⟩, fun _ => fin, fun h2 => ?_⟩⟩
        rw [hT'.1.1] at h1
        have := (hT'.2.1 (k' + 1) (by omega)).1
        rw [show ((k' : Int) + 1).toNat = k' + 1 by omega] at h2
        omega
      | succ s ihc =>
        intro c M' hc hf a0 a1 a3 a4 a5 a8
        have hT' := keep hf a0
        have hcl : c < cnt (k' + 1) := by omega
        have hN1 : k' + 1 < N := Classical.byContradiction fun hn => by
          have := hT.1.2.2 (k' + 1) (by omega)
          omega
        have h20 := hT'.2.1 (k' + 1) (by omega)
        have h21 := (hT'.2.2 (k' + 1) hN1).1 c hcl (by omega)
        have ea : ((80 * ((k' : Int) + 1)) + (c : Int)).toNat = 80 * (k' + 1) + c := by omega
        have ek : ((k' : Int) + 1).toNat = k' + 1 := by omega
        refine s_1049_119 ⟨by omega, fun h => ?_, fun h1 => ⟨⟨by omega, by omega⟩, fun h2 => ?_, fun h2 => ?_⟩⟩
        · rw [hT'.1.1] at h; omega
        · rw [ek, h20.1] at h2; omega
        rw [ea, h21]
        refine ⟨⟨by omega, by omega, by omega, by omega⟩, fun heq x8 e8 => ⟨by omega, ?_⟩, fun hne => ⟨by omega, ?_⟩⟩
        · have hpc : p c = true := by rw [← hp]; exact decide_eq_true heq
          have hl := hle (show c + 1 ≤ cnt (k' + 1) from hcl)
          rw [kdA_y hpc, List.length_append, hTc] at hl
          have hpos : 0 < (trL cnt pr F (k' + 1) c (i : Int) (i + 1 + (kdA T p (i + 1) c).length)).length := by
            obtain ⟨F', rfl⟩ := hFpos
            exact trL_pos cnt pr
          have nxt := ihc (c + 1)
          rw [kdA_y hpc, List.length_append, hTc] at nxt
          have hpa := fun t r => trL_pa (cnt := cnt) (pr := pr) F (k' + 1) c (i : Int) (i + 1 + (kdA T p (i + 1) c).length) t r
          generalize hee : i + 1 + (kdA T p (i + 1) c).length = e at *
          have hcm : cntB p (c + 1) ≤ cntB p (cnt (k' + 1)) := cntB_mono (show c + 1 ≤ cnt (k' + 1) from hcl)
          have ex8 : x8 = e := by rw [e8]; exact a1
          subst ex8
          rw [show (k' : Int) + 1 = ((k' + 1 : Nat) : Int) by omega]
          refine ih (k' + 1) c e (i : Int) M' _ (by omega) hT' hN1 hcl (by omega) a1 (by omega) fun M6 f6 b0 b1 b4 b5 b8 => ?_
          generalize hel : e + (trL cnt pr F (k' + 1) c (i : Int) e).length = e' at *
          have he' : e < e' ∧ e' ≤ 256 := by omega
          rw [Int.toNat_natCast, Int.toNat_natCast]
          have a8' : WyR i e (M6.1 1148 0) (M6.1 1150 0) := a8.cg fun j j1 j2 => ⟨b5 j j2 1148 (by omega) (by omega), b5 j j2 1150 (by omega) (by omega)⟩
          have w1 := (a8' i (Nat.le_refl i) (by omega)).2.1
          have w2 := (b8 e (Nat.le_refl e) he'.1).2.1
          refine ⟨by omega, fun _ => by omega, fun _ => by omega, fun x ex => ⟨by omega, fun M7 e7 => ⟨by omega, ?_⟩⟩⟩
          have q50 : M7.1 1150 0 = ups (M6.1 1150 0) i x := by rw [e7, setI_at]
          have qot : ∀ t, t ≠ 1150 → M7.1 t 0 = M6.1 t 0 := fun t ht => by rw [e7, setI_ne (by omega)]
          have := nxt M7 (by omega) ((hf.tr f6).tr (by rw [e7]; exact Fx.setI ⟨by omega, rfl⟩)) (fun q hq => by rw [qot 10 (by omega), b0 q hq]; exact a0 q hq) (by rw [qot 10 (by omega), b1]; omega) (a3.fx fun t t1 t2 => by rw [qot t (by omega)]; exact b5 i (by omega) t t1 (by omega)) ?_ (fun q hq t t1 t2 => ?_) ?_
          · rw [show (c : Int) + 1 = ((c + 1 : Nat) : Int) by omega]
            exact this
          · refine (MecL.app ((a4.fx (n := e) (by omega) fun q hq t t1 t2 => b5 q hq t t1 (by omega))) (by rw [hee]; exact b4)).fx (n := e') (by rw [List.length_append]; omega) fun q _ t t1 t2 => by rw [qot t (by omega)]
          · by_cases h50 : t = 1150
            · rw [h50, q50, ups_ne (by omega), b5 q (by omega) 1150 (by omega) (by omega)]
              exact a5 q hq 1150 (by omega) (by omega)
            · rw [qot t h50, b5 q (by omega) t t1 t2]
              exact a5 q hq t t1 t2
          · have eE : i + 1 + ((kdA T p (i + 1) c).length + (trL cnt pr F (k' + 1) c (i : Int) e).length) = e' := by omega
            rw [eE, q50, qot 1148 (by omega)]
            have h48 : ∀ t, e + t < e' → ∃ r, (trL cnt pr F (k' + 1) c (i : Int) e)[t]? = some r ∧ M6.1 1148 0 (e + t) = r.2.2.2.2 := by
              intro t ht
              have hr : (trL cnt pr F (k' + 1) c (i : Int) e)[t]? = some ((trL cnt pr F (k' + 1) c (i : Int) e)[t]'(by omega)) := List.getElem?_eq_getElem (by omega)
              exact ⟨_, hr, (b4 t _ hr).2.2.2.1⟩
            refine a8'.st b8 (by omega) he'.1 ?_ (fun j j1 j2 => ?_) ex
            · obtain ⟨r, r1, r2⟩ := h48 0 (by omega)
              rcases hpa 0 r r1 with ⟨-, r3⟩ | ⟨r3, -⟩
              · rw [Nat.add_zero] at r2
                rw [r2, r3]
              · omega
            · obtain ⟨r, r1, r2⟩ := h48 (j - e) (by omega)
              rw [show e + (j - e) = j by omega] at r2
              rcases hpa (j - e) r r1 with ⟨r3, -⟩ | ⟨-, r3, -⟩
              · omega
              · rw [r2]; exact r3
        · have hpc : p c = false := by rw [← hp]; exact decide_eq_false hne
          have nxt := ihc (c + 1) M' (by omega) hf a0
          rw [kdA_n hpc] at nxt
          have := nxt a1 a3 a4 a5 a8
          rw [show (c : Int) + 1 = ((c + 1 : Nat) : Int) by omega]
          exact this
    refine key (cnt (k' + 1)) 0 M5 (by omega) f5 (fun q hq => by rw [k10, ups_ne hq]) (by rw [k10, ups_at]; rfl) ?_ (fun t r ht => by cases ht) (fun q hq t t1 t2 => ?_) ?_
    · unfold MecC
      rw [k45, k46, k47, k48, k49, ups_at, ups_at, ups_at, ups_at, ups_at]
      exact ⟨rfl, rfl, rfl, rfl, rfl⟩
    · rcases (show t = 1145 ∨ t = 1146 ∨ t = 1147 ∨ t = 1148 ∨ t = 1149 ∨ t = 1150 by omega) with rfl | rfl | rfl | rfl | rfl | rfl
      · rw [k45, ups_ne (by omega)]
      · rw [k46, ups_ne (by omega)]
      · rw [k47, ups_ne (by omega)]
      · rw [k48, ups_ne (by omega)]
      · rw [k49, ups_ne (by omega)]
      · rw [k50, ups_ne (by omega)]
    · intro a a1 a2
      have z : (kdA T p (i + 1) 0).length = 0 := rfl
      rw [z] at a2 ⊢
      have ea : a = i := by omega
      subst ea
      rw [k48, k50, ups_at, ups_at]
      refine ⟨hiv, by omega, fun j j1 j2 j3 => ?_, Or.inl rfl⟩
      have : j = a := by omega
      rw [this, ups_at] at j3
      omega

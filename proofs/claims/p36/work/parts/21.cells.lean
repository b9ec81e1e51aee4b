/-! constructors: cells made, runs, contracts -/
theorem dflt_len (ci : Nat) : (dflt ci).length = nF ci := by unfold dflt; rw [List.length_map, List.length_range]
theorem getD_last {am : List Nat} {q n : Nat} (h : am.length = n) : (am ++ [q]).getD n 0 = q := by
  subst h
  rw [List.getD_eq_getElem?_getD, List.getElem?_append_right (Nat.le_refl _), Nat.sub_self]
  rfl
theorem sloH_app (hp : List He) (x : He) : sloH (hp ++ [x]) = sloH hp + sizE x := by
  unfold sloH
  rw [List.map_append, List.sum_append]
  simp
section SN
variable {p : Program} {l : Launch} {e : Env} {R : Room} {s : State} {m : MethodId} {args : Array Value} {below : List Frame} {meth : Method} {c : Code} {H : Heap} {locs : List Loc} {cells slots : Nat} {Q : State → Prop}
variable {D : va_G} {cy : Cy} {b : Nat} {A : Nat → Prop} {H0 : Heap} {k : Nat}
theorem stepN (F : Fr p s m args c D cy (mI k)) (hAO : va_AO phN s) (hA : ∀ q, H0.size ≤ q → A q) {am : List Nat} {hp : List He} (hlen : am.length = hp.length) {i : Jvm.ClassFile.Instr} {pc a pc' : Nat} {ls : Ls} {st st' : List Vv} {x : He} (hd : decode (cM (mI k)) pc = .ok (i, lnI i)) (ho : okW k pc i a = true) (hw : wfS hp.length ls st hp = true) (h : aN i a pc st hp.length = some (pc', st', x))
    {lsC : Array Slot} (hL : LR (adL b am) (lM (mI k)) ls lsC) (hP : va_P D vwCl (wsH cy b am hp) H) (hDd : va_D A (wsH cy b am hp)) (hS0 : va_S A H0 H locs) (hc : cells + 1 ≤ R.cells) (hs : slots + sizE x ≤ R.slots)
    (kk : ∀ (q : Nat) (H1 : Heap), LR (adL b (am ++ [q])) (lM (mI k)) ls lsC → va_P D vwCl (wsH cy b (am ++ [q]) (hp ++ [x])) H1 → va_D A (wsH cy b (am ++ [q]) (hp ++ [x])) → va_S A H0 H1 locs → W p l e R s m args below meth c H1 locs (cells + 1) (slots + sizE x) Q (F0 m pc' lsC (st'.map (conc (adL b (am ++ [q])))))) : W p l e R s m args below meth c H locs cells slots Q (F0 m pc lsC (st.map (conc (adL b am)))) := by
  obtain ⟨w1, w2, w3⟩ := and3 hw
  rw [← hlen] at w1 w2 w3
  have fin : ∀ (q : Nat) (H1 : Heap) (r : List Vv) (en : va_E), st' = .inr (.inr (0, hp.length)) :: r → r.all (wfV am.length) = true → ceH cy b (am ++ [q]) x = en → va_P D vwCl (wsH cy b am hp ++ [(q, en)]) H1 → va_D A (wsH cy b am hp ++ [(q, en)]) → va_S A H0 H1 locs → W p l e R s m args below meth c H1 locs (cells + 1) (slots + sizE x) Q (F0 m pc' lsC (.ref q :: r.map (conc (adL b am)))) := by
    intro q H1 r en e1 e2 e3 q1 q2 q3
    subst e3
    rw [← wsH_app hlen w3] at q1 q2
    have k1 := kk q H1 (LR_app w1 hL) q1 q2 q3
    rw [e1] at k1
    have e4 : (Sum.inr (Sum.inr (0, hp.length)) :: r : List Vv).map (conc (adL b (am ++ [q]))) = .ref q :: r.map (conc (adL b am)) := by
      rw [List.map_cons, st_app e2]
      show Value.ref ((am ++ [q]).getD hp.length 0) :: _ = _
      rw [getD_last hlen]
    rw [e4] at k1
    exact k1
  cases i with
  | new idx =>
    cases h
    have ho : (Nat.blt a 10 && cLk (yM (mI k)).cls idx (RR' a)) = true := ho
    rw [Bool.and_eq_true] at ho
    have h11 := blt_lt ho.1
    obtain ⟨i1, i2, -, -, -⟩ := and5 (List.all_eq_true.mp ic_b a (List.mem_range.mpr h11))
    have hs2 : slots + nF a ≤ R.slots := by
      have : slots + (dflt a).length ≤ R.slots := hs
      rw [dflt_len] at this
      exact this
    refine va_new F.1 F.2.1 F.2.2.2.2.1 (ws_in h11) (tyT a) (ty_of h11) F.2.2.2.1 (F.2.2.2.2.1 _ (cLk_m ho.2)) (F.2.2.2.2.1 _ (inG_m i1)) (F.2.2.2.2.1 _ (inG_m i2)) F.2.2.2.2.2 hP hDd hS0 hA (cl_at h11) (dfl_ok b h11) hc hs2 hd (fun q H1 q1 q2 q3 => ?_)
    have k1 := fin q H1 st _ rfl w2 (by show (Sum.inr (a, (dflt a).map (cvo b (am ++ [q]))) : va_E) = Sum.inr (a, (dflt a).map (cvo b [])); rw [dfl_am]) q1 q2 q3
    rw [show sizE (.inl (a, dflt a)) = nF a from dflt_len a] at k1
    exact k1
  | newarray t =>
    replace h : (match (generalizing := false) st with
      | .inl k :: st' => bif decide (0 ≤ k) && decide (k ≤ 30000) && Nat.blt a 3 then some (pc + 2, .inr (.inr (0, hp.length)) :: st', .inr (a, k.toNat, [])) else none
      | _ => none) = some (pc', st', x) := h
    split at h
    · next n r =>
      cases hb : (decide (0 ≤ n) && decide (n ≤ 30000) && Nat.blt a 3) with
      | false => rw [hb] at h; cases h
      | true =>
        rw [hb] at h
        cases h
        obtain ⟨b1, b2, b3⟩ := and3 hb
        have b1 := of_decide_eq_true b1
        have b2 := of_decide_eq_true b2
        have b3 := blt_lt b3
        have hn : inR n := by unfold inR; omega
        have hneg : ¬ Int32.ofInt n < 0 := by
          rw [← oi_0, oi_lt hn in_0]
          omega
        rw [List.all_cons, Bool.and_eq_true] at w2
        obtain ⟨c1, c2, c3⟩ := and3 ac_b
        have h3 : a = 0 ∨ a = 1 ∨ a = 2 := by omega
        rcases h3 with e1 | e1 | e1
        · subst e1
          have ho : decide (t = .int) = true := ho
          have e2 := of_decide_eq_true ho
          subst e2
          refine va_newa (a0 := (n.toNat, .inl fun _ => 0)) (N' := n.toNat) (ty := .int) (atype := .int) F.1 F.2.1 (F.2.2.2.2.1 _ (inG_m c1)) rfl F.2.2.2.2.2 hP hDd hS0 hA (fun _ => rfl) hneg (tn_oi hn) (by show n.toNat * 4 ≤ 536870912; omega) hc hs hd (fun q cA H1 hK q1 q2 q3 => ?_)
          have f1 : s.vm.findClass ("[" ++ FieldType.int.toString) = some cA := (hK.2 4 (cA, .int) rfl).2
          have f2 : s.vm.findClass ("[" ++ FieldType.int.toString) = some cy.1 := (F.2.2.2.2.2.2 0 (cy.1, .int) rfl).2
          rw [f1] at f2
          cases Option.some.inj f2
          exact fin q H1 r _ rfl w2.2 rfl q1 q2 q3
        · subst e1
          have ho : decide (t = .long) = true := ho
          have e2 := of_decide_eq_true ho
          subst e2
          refine va_newa (a0 := (n.toNat, .inr (.inl fun _ => 0))) (N' := n.toNat) (ty := .long) (atype := .long) F.1 F.2.1 (F.2.2.2.2.1 _ (inG_m c2)) rfl F.2.2.2.2.2 hP hDd hS0 hA (fun _ => rfl) hneg (tn_oi hn) (by show n.toNat * 8 ≤ 536870912; omega) hc hs hd (fun q cA H1 hK q1 q2 q3 => ?_)
          have f1 : s.vm.findClass ("[" ++ FieldType.long.toString) = some cA := (hK.2 4 (cA, .long) rfl).2
          have f2 : s.vm.findClass ("[" ++ FieldType.long.toString) = some cy.2.1 := (F.2.2.2.2.2.2 1 (cy.2.1, .long) rfl).2
          rw [f1] at f2
          cases Option.some.inj f2
          exact fin q H1 r _ rfl w2.2 rfl q1 q2 q3
        · subst e1
          exact absurd (show false = true from ho) (by decide)
    · cases h
  | anewarray idx =>
    replace h : (match (generalizing := false) st with
      | .inl k :: st' => bif decide (0 ≤ k) && decide (k ≤ 30000) then some (pc + 3, .inr (.inr (0, hp.length)) :: st', .inr (3, k.toNat, List.replicate k.toNat none)) else none
      | _ => none) = some (pc', st', x) := h
    split at h
    · next n r =>
      cases hb : (decide (0 ≤ n) && decide (n ≤ 30000)) with
      | false => rw [hb] at h; cases h
      | true =>
        rw [hb] at h
        cases h
        rw [Bool.and_eq_true] at hb
        have b1 := of_decide_eq_true hb.1
        have b2 := of_decide_eq_true hb.2
        have hn : inR n := by unfold inR; omega
        have hneg : ¬ Int32.ofInt n < 0 := by
          rw [← oi_0, oi_lt hn in_0]
          omega
        rw [List.all_cons, Bool.and_eq_true] at w2
        have ho : cLk (yM (mI k)).cls idx phN = true := ho
        refine va_newq (N' := n.toNat) F.1 F.2.1 F.2.2.2.1 (F.2.2.2.2.1 _ (cLk_m ho)) hAO F.2.2.2.2.2 hP hDd hS0 hA hneg (tn_oi hn) (by omega) hc hs hd (fun q cA H1 hK q1 q2 q3 => ?_)
        obtain ⟨kA, comp, -, -, -, f1⟩ := (hK.2 4 (cA, .object phN) rfl).2
        obtain ⟨kA', comp', -, -, -, f2⟩ := (F.2.2.2.2.2.2 3 (cy.2.2.2, .object phN) rfl).2
        have f1 : s.vm.findClass ("[" ++ (FieldType.object phN).toString) = some cA := f1
        have f2 : s.vm.findClass ("[" ++ (FieldType.object phN).toString) = some cy.2.2.2 := f2
        rw [f1] at f2
        cases Option.some.inj f2
        refine fin q H1 r _ rfl w2.2 ?_ q1 q2 q3
        show (Sum.inl (cy.2.2.2, n.toNat, .inr (.inr (.inr (.inr fun j => ((List.replicate n.toNat (none : Option Nat)).getD j none).map fun k => (am ++ [q]).getD k 0)))) : va_E) = Sum.inl (cy.2.2.2, n.toNat, .inr (.inr (.inr (.inr fun _ => none))))
        congr 7
        funext j
        have e5 : (List.replicate n.toNat (none : Option Nat)).getD j none = none := by
          rw [List.getD_eq_getElem?_getD, List.getElem?_replicate]
          split <;> rfl
        rw [e5]
        rfl
    · cases h
  | _ => cases h
end SN
theorem aEx_is {n d k pc : Nat} {ls : Ls} {st : List Vv} {hp : List He} {r : Nat × Ls × List He} (h : aEx (n + 1) d k pc ls st hp = some r) :
    (stopI k pc st = true ∧ r = (pc, ls, hp)) ∨
    (∃ idx len h0 rest, fetI k pc = some (.invokespecial idx, len, 9999) ∧ st = .inr (.inr (0, h0)) :: rest ∧ rest.length ≤ 4 ∧ aEx n d k (pc + 3) ls rest hp = some r) ∨
    (∃ idx len a h0 rest d' z1 z2 hp', fetI k pc = some (.invokespecial idx, len, a) ∧ a < 10 ∧ st = .inr (.inr (0, h0)) :: rest ∧ d = d' + 1 ∧ wfS hp.length ls st hp = true ∧ rest.length ≤ 4 ∧ aEx n d' a 0 (entL (lM (100 * a)) [.inr (.inr (0, h0))]) [] hp = some (z1, z2, hp') ∧ aEx n (d' + 1) k (pc + 3) ls rest hp' = some r) ∨
    (∃ i len a pc' st' x, fetI k pc = some (i, len, a) ∧ wfS hp.length ls st hp = true ∧ aN i a pc st hp.length = some (pc', st', x) ∧ aEx n d k pc' ls st' (hp ++ [x]) = some r) ∨
    (∃ i len a pc' ls' st' hp', fetI k pc = some (i, len, a) ∧ aS i a pc ls st hp = some (pc', ls', st', hp') ∧ aEx n d k pc' ls' st' hp' = some r) := by
  rw [aEx] at h
  cases hs : stopI k pc st with
  | true => rw [hs] at h; cases h; exact Or.inl ⟨rfl, rfl⟩
  | false =>
    rw [hs] at h
    simp only [cond_false] at h
    split at h
    · cases h
    · next idx len a hf =>
      split at h
      · next h0 rest =>
        cases h9 : Nat.beq a 9999 with
        | true =>
          rw [h9] at h
          have e9 := Nat.eq_of_beq_eq_true h9
          subst e9
          simp only [cond_true] at h
          rw [Bool.cond_eq_ite] at h
          split at h
          · next hb => exact Or.inr (Or.inl ⟨idx, len, h0, rest, hf, rfl, Nat.le_of_ble_eq_true hb, h⟩)
          · cases h
        | false =>
          rw [h9] at h
          simp only [cond_false] at h
          split at h
          · cases h
          · next d' =>
            rw [Bool.cond_eq_ite] at h
            split at h
            · next hb =>
              obtain ⟨b1, b2, b3⟩ := and3 hb
              split at h
              · next z1 z2 hp' hc => exact Or.inr (Or.inr (Or.inl ⟨idx, len, a, h0, rest, d', z1, z2, hp', hf, blt_lt b3, rfl, rfl, b1, Nat.le_of_ble_eq_true b2, hc, h⟩))
              · cases h
            · cases h
      · cases h
    · next i len a hno hf =>
      cases hi : isN i with
      | true =>
        rw [hi] at h
        simp only [cond_true] at h
        rw [Bool.cond_eq_ite] at h
        split at h
        · next hb =>
          split at h
          · next pc' st' x hx => exact Or.inr (Or.inr (Or.inr (Or.inl ⟨i, len, a, pc', st', x, hf, hb, hx, h⟩)))
          · cases h
        · cases h
      | false =>
        rw [hi] at h
        simp only [cond_false] at h
        split at h
        · next pc' ls' st' hp' hx => exact Or.inr (Or.inr (Or.inr (Or.inr ⟨i, len, a, pc', ls', st', hp', hf, hx, h⟩)))
        · cases h
theorem aEx_mono : ∀ (n d k pc : Nat) (ls : Ls) (st : List Vv) (hp : List He) (r : Nat × Ls × List He), aEx n d k pc ls st hp = some r → hp.length ≤ r.2.2.length ∧ sloH hp ≤ sloH r.2.2 := by
  intro n
  induction n with
  | zero => intro d k pc ls st hp r h; rw [aEx] at h; cases h
  | succ n ih =>
    intro d k pc ls st hp r h
    rcases aEx_is h with ⟨-, e⟩ | ⟨idx, len, h0, rest, -, -, -, h1⟩ | ⟨idx, len, a, h0, rest, d', z1, z2, hp', -, -, -, -, -, -, h1, h2⟩ | ⟨i, len, a, pc', st', x, -, -, -, h1⟩ | ⟨i, len, a, pc', ls', st', hp', -, h0, h1⟩
    · subst e; exact ⟨Nat.le_refl _, Nat.le_refl _⟩
    · exact ih _ _ _ _ _ _ _ h1
    · have g1 := ih _ _ _ _ _ _ _ h1
      have g2 := ih _ _ _ _ _ _ _ h2
      exact ⟨Nat.le_trans g1.1 g2.1, Nat.le_trans g1.2 g2.2⟩
    · have g1 := ih _ _ _ _ _ _ _ h1
      rw [sloH_app, List.length_append] at g1
      exact ⟨Nat.le_trans (Nat.le_add_right _ _) g1.1, Nat.le_trans (Nat.le_add_right _ _) g1.2⟩
    · have g1 := ih _ _ _ _ _ _ _ h1
      have g2 := aS_len h0
      rw [g2.1, g2.2] at g1
      exact g1

/-! constructors: steps, runs, contracts -/
theorem fkd {ci k : Nat} (h : ci < 10) (hk : k < nF ci) (hf : Nat.blt 1 (fK ci k) = true) : (∃ n, tyT ci k = .object n) ∨ ∃ t, tyT ci k = .array t := by
  have g := List.all_eq_true.mp (List.all_eq_true.mp ft_b ci (List.mem_range.mpr h)) k (List.mem_range.mpr hk)
  have h0 : fK ci k ≠ 0 := fun e => by rw [e] at hf; cases hf
  have h1 : fK ci k ≠ 1 := fun e => by rw [e] at hf; cases hf
  split at g
  · next e => exact absurd e h0
  · next e => exact absurd e h1
  · split at g
    · next n e => exact Or.inl ⟨n, e⟩
    · next t e => exact Or.inr ⟨t, e⟩
    · cases g
theorem dfl_ok {ci : Nat} (b : Nat) (h : ci < 10) : ∀ j, j < nF ci → defaultValue (tyT ci j) = vp_V ((dflt ci).map (cvo b [])) j := by
  intro j hj
  have e : (dflt ci).map (cvo b []) = (List.range (nF ci)).map fun k => cvo b [] (bif Nat.blt (fK ci k) 2 then some (.inl 0) else none) := by
    unfold dflt
    rw [List.map_map]
    rfl
  unfold vp_V
  rw [e, List.getD_eq_getElem?_getD, List.getElem?_map, List.getElem?_range hj]
  show _ = cvo b [] (bif Nat.blt (fK ci j) 2 then some (.inl 0) else none)
  cases hf : Nat.blt (fK ci j) 2 with
  | true =>
    have h2 : fK ci j = 0 ∨ fK ci j = 1 := by have := blt_lt hf; omega
    rcases h2 with h2 | h2
    · rw [fk_of0 h hj h2]; rfl
    · rw [fk_of1 h hj h2]; rfl
  | false =>
    have h2 : Nat.blt 1 (fK ci j) = true := by
      have : ¬ fK ci j < 2 := fun q => by rw [show Nat.blt (fK ci j) 2 = true from Nat.ble_eq_true_of_le q] at hf; cases hf
      exact Nat.ble_eq_true_of_le (by omega)
    rcases fkd h hj h2 with ⟨n, e⟩ | ⟨t, e⟩ <;> rw [e] <;> rfl
theorem dfl_am {ci b : Nat} {am am' : List Nat} : (dflt ci).map (cvo b am) = (dflt ci).map (cvo b am') := by
  refine List.map_congr_left fun v hv => ?_
  obtain ⟨k, -, e⟩ := List.mem_map.mp hv
  subst e
  cases Nat.blt (fK ci k) 2 <;> rfl
def NWs (U : State) : Prop := ∀ w ∈ lw_tbl, wkind w = true → va_Nw w U
section SC
variable {p : Program} {l : Launch} {e : Env} {R : Room} {s : State} {m : MethodId} {args : Array Value} {below : List Frame} {meth : Method} {c : Code} {H : Heap} {locs : List Loc} {cells slots : Nat} {Q : State → Prop}
variable {D : va_G} {cy : Cy} {b : Nat} {A : Nat → Prop} {H0 : Heap} {k : Nat}
theorem stepA (F : Fr p s m args c D cy (mI k)) (hin : k < 10 → meth.name = "<init>") {am : List Nat} {hp hp' : List He} (hlen : am.length = hp.length) {i : Jvm.ClassFile.Instr} {pc a pc' : Nat} {ls ls' : Ls} {st st' : List Vv} (hd : decode (cM (mI k)) pc = .ok (i, lnI i)) (ho : okW k pc i a = true) (h : aS i a pc ls st hp = some (pc', ls', st', hp'))
    {lsC : Array Slot} (hL : LR (adL b am) (lM (mI k)) ls lsC) (hP : va_P D vwCl (wsH cy b am hp) H) (hDd : va_D A (wsH cy b am hp)) (hS0 : va_S A H0 H locs)
    (kk : ∀ (H1 : Heap) (locs1 : List Loc) (lsC1 : Array Slot), LR (adL b am) (lM (mI k)) ls' lsC1 → va_P D vwCl (wsH cy b am hp') H1 → va_D A (wsH cy b am hp') → va_S A H0 H1 locs1 → W p l e R s m args below meth c H1 locs1 cells slots Q (F0 m pc' lsC1 (st'.map (conc (adL b am))))) : W p l e R s m args below meth c H locs cells slots Q (F0 m pc lsC (st.map (conc (adL b am)))) := by
  cases i with
  | aload_n k0 =>
    replace h : (match (generalizing := false) getL ls k0 with
      | some (.inr (.inr v)) => some (pc + 1, ls, .inr (.inr v) :: st, hp)
      | _ => none) = some (pc', ls', st', hp') := h
    split at h
    · next v g => cases h; exact lv_aload_n F.1 F.2.1 hd rfl (hL.get g) (kk _ _ _ hL hP hDd hS0)
    · cases h
  | iload_n k0 =>
    replace h : (match (generalizing := false) getL ls k0 with
      | some (.inl v) => some (pc + 1, ls, .inl v :: st, hp)
      | _ => none) = some (pc', ls', st', hp') := h
    split at h
    · next v g => cases h; exact lv_iload_n F.1 F.2.1 hd rfl (hL.get g) (kk _ _ _ hL hP hDd hS0)
    · cases h
  | istore_n k0 =>
    replace h : (match (generalizing := false) st with
      | .inl v :: st' => bif Nat.blt k0 ls.length then some (pc + 1, stI ls k0 (.inl v), st', hp) else none
      | _ => none) = some (pc', ls', st', hp') := h
    split at h
    · next v r =>
      cases hc : Nat.blt k0 ls.length with
      | false => rw [hc] at h; cases h
      | true =>
        rw [hc] at h
        cases h
        have hi : (k0 : Nat) < lM (mI k) := hL.1 ▸ blt_lt hc
        exact lv_istore_n F.1 F.2.1 hd rfl hL.2 hi rfl (fun ls1 h1 => kk _ _ _ (LR.st1 hL.1 hi h1) hP hDd hS0)
    · cases h
  | astore_n k0 =>
    replace h : (match (generalizing := false) st with
      | .inr (.inr v) :: st' => bif Nat.blt k0 ls.length then some (pc + 1, stI ls k0 (.inr (.inr v)), st', hp) else none
      | _ => none) = some (pc', ls', st', hp') := h
    split at h
    · next v r =>
      cases hc : Nat.blt k0 ls.length with
      | false => rw [hc] at h; cases h
      | true =>
        rw [hc] at h
        cases h
        have hi : (k0 : Nat) < lM (mI k) := hL.1 ▸ blt_lt hc
        exact lv_astore_n F.1 F.2.1 hd rfl hL.2 hi rfl (fun ls1 h1 => kk _ _ _ (LR.st1 hL.1 hi h1) hP hDd hS0)
    · cases h
  | iconst n => cases h; exact lv_iconst F.1 F.2.1 hd rfl (kk _ _ _ hL hP hDd hS0)
  | bipush n => cases h; exact lv_bipush F.1 F.2.1 hd (of_decide_eq_true ho) (kk _ _ _ hL hP hDd hS0)
  | sipush n => cases h; exact lv_sipush F.1 F.2.1 hd (of_decide_eq_true ho) (kk _ _ _ hL hP hDd hS0)
  | dup =>
    replace h : (match (generalizing := false) st with
      | .inr (.inr v) :: st' => some (pc + 1, ls, .inr (.inr v) :: .inr (.inr v) :: st', hp)
      | _ => none) = some (pc', ls', st', hp') := h
    split at h
    · cases h; exact lv_dup F.1 F.2.1 hd rfl (kk _ _ _ hL hP hDd hS0)
    · cases h
  | goto off => cases h; exact lv_goto F.1 F.2.1 hd (of_decide_eq_true ho) (kk _ _ _ hL hP hDd hS0)
  | iinc k0 n =>
    replace h : (match (generalizing := false) getL ls k0 with
      | some (.inl v) => bif Nat.blt k0 ls.length then some (pc + 3, stI ls k0 (.inl (wrap (v + n))), st, hp) else none
      | _ => none) = some (pc', ls', st', hp') := h
    split at h
    · next v g =>
      cases hc : Nat.blt k0 ls.length with
      | false => rw [hc] at h; cases h
      | true =>
        rw [hc] at h
        cases h
        have hi : k0 < lM (mI k) := hL.1 ▸ blt_lt hc
        have hm : (k0, conc (adL b am) (.inl v)) ∈ ascF (adL b am) 0 ls := by
          unfold getL at g
          split at g
          · next w hw => cases g; exact ascF_mem.mpr ⟨k0, _, hw, by simp⟩
          · cases g
        obtain ⟨j, hj⟩ := List.getElem?_of_mem hm
        exact lv_iinc F.1 F.2.1 hd hL.2 hj (v := Int32.ofInt (wrap (v + n))) (by rw [oi_wrap, Int32.ofInt_add]) hi rfl (fun ls1 h1 => kk _ _ _ (LR.st1 hL.1 hi h1) hP hDd hS0)
    · cases h
  | if_icmp cc off =>
    cases cc with
    | ge =>
      replace h : (match (generalizing := false) st with
        | .inl y :: .inl x :: st' => bif inB x && inB y then some (if x < y then pc + 3 else a, ls, st', hp) else none
        | _ => none) = some (pc', ls', st', hp') := h
      split at h
      · next y x r =>
        cases hc : (inB x && inB y) with
        | false => rw [hc] at h; cases h
        | true =>
          rw [hc] at h
          cases h
          rw [Bool.and_eq_true] at hc
          have hx : inR x := by have := hc.1; unfold inB at this; rw [Bool.and_eq_true, decide_eq_true_eq, decide_eq_true_eq] at this; exact this
          have hy : inR y := by have := hc.2; unfold inB at this; rw [Bool.and_eq_true, decide_eq_true_eq, decide_eq_true_eq] at this; exact this
          have k1 := kk _ _ _ hL hP hDd hS0
          refine lv_icmp_ge F.1 F.2.1 hd (of_decide_eq_true ho) (fun hc => ?_) (fun hc => ?_)
          · rw [if_neg (fun q => by have := (oi_le hy hx).mp hc; omega)] at k1
            exact k1
          · rw [if_pos (by have : ¬ y ≤ x := fun q => hc ((oi_le hy hx).mpr q); omega)] at k1
            exact k1
      · cases h
    | _ => cases h
  | putfield idx =>
    have ho : (Nat.blt k 10 && (Nat.blt (a / 100) 10 && (Nat.blt (a % 100) (nF (a / 100)) && (decide ((TT (a / 100) (a % 100)).1 = (yM (mI k)).cls) && fLk (yM (mI k)).cls idx a)))) = true := ho
    simp only [Bool.and_eq_true, decide_eq_true_eq] at ho
    obtain ⟨o1, o2, o3, o4, o5⟩ := ho
    have h11 := blt_lt o2
    have hk := blt_lt o3
    have hlk := F.2.2.2.2.1 _ (fLk_m o5)
    replace h : (match (generalizing := false) st with
      | v :: .inr (.inr (0, h)) :: st' => (match (generalizing := false) hp[h]? with
        | some (.inl (ci, fs)) => bif Nat.beq ci (a / 100) && Nat.blt (a % 100) fs.length && okPut ci (a % 100) v then some (pc + 3, ls, st', hp.set h (.inl (ci, fs.set (a % 100) (some v)))) else none
        | _ => none)
      | _ => none) = some (pc', ls', st', hp') := h
    split at h
    · next v h0 r =>
      split at h
      · next ci fs hh =>
        rw [Bool.cond_eq_ite] at h
        split at h
        · next hb =>
          cases h
          obtain ⟨b1, b2, b3⟩ := and3 hb
          have e1 := Nat.eq_of_beq_eq_true b1
          subst e1
          have he := wsH_at (cy := cy) (b := b) hlen hh
          have hl : a % 100 < (fs.map (cvo b am)).length := by rw [List.length_map]; exact blt_lt b2
          have hv : narrow (tyT (a / 100) (a % 100)) (conc (adL b am) v) = conc (adL b am) v ∧ fits (tyT (a / 100) (a % 100)) (conc (adL b am) v) = true := by
            unfold okPut at b3
            split at b3
            · rw [fk_of0 h11 hk (Nat.eq_of_beq_eq_true b3)]; exact ⟨rfl, rfl⟩
            · rcases fkd h11 hk b3 with ⟨n, e2⟩ | ⟨t, e2⟩ <;> rw [e2] <;> exact ⟨rfl, rfl⟩
            · cases b3
          have fin : ∀ (H1 : Heap) (locs1 : List Loc), va_P D vwCl ((wsH cy b am hp).set h0 (am.getD h0 0, .inr (a / 100, (fs.map (cvo b am)).set (a % 100) (conc (adL b am) v)))) H1 → va_D A ((wsH cy b am hp).set h0 (am.getD h0 0, .inr (a / 100, (fs.map (cvo b am)).set (a % 100) (conc (adL b am) v)))) → va_S A H0 H1 locs1 → W p l e R s m args below meth c H1 locs1 cells slots Q (F0 m (pc + 3) lsC (st'.map (conc (adL b am)))) := by
            intro H1 locs1 q1 q2 q3
            have e3 : (Sum.inr (a / 100, (fs.map (cvo b am)).set (a % 100) (conc (adL b am) v)) : va_E) = ceH cy b am (.inl (a / 100, fs.set (a % 100) (some v))) := by
              show _ = (Sum.inr (a / 100, (fs.set (a % 100) (some v)).map (cvo b am)) : va_E)
              rw [List.map_set]
              rfl
            rw [e3, wsH_set hlen hh] at q1 q2
            exact kk _ _ _ hL q1 q2 q3
          cases hf : (TT (a / 100) (a % 100)).2.2.2 with
          | true => exact va_putF F.1 F.2.1 F.2.2.2.2.1 (ws_in h11) (tyT (a / 100)) (ty_of h11) (nm_of h11) F.2.2.2.1 F.2.2.2.2.2 hP hDd hS0 h0 he (cl_at h11) (a % 100) hk hlk (fun _ z => z) hf (hin (blt_lt o1)) o4 (ty_of h11 _ hk) hv.1 hv.2 hl hd fin
          | false => exact va_put F.1 F.2.1 F.2.2.2.2.1 (ws_in h11) (tyT (a / 100)) (ty_of h11) (nm_of h11) F.2.2.2.1 F.2.2.2.2.2 hP hDd hS0 h0 he (cl_at h11) (a % 100) hk hlk (fun _ z => z) hf (ty_of h11 _ hk) hv.1 hv.2 hl hd fin
        · cases h
      · cases h
    · cases h
  | getfield idx =>
    have ho : (Nat.blt (a / 100) 10 && (Nat.blt (a % 100) (nF (a / 100)) && fLk (yM (mI k)).cls idx a)) = true := ho
    simp only [Bool.and_eq_true] at ho
    obtain ⟨o2, o3, o5⟩ := ho
    have h11 := blt_lt o2
    have hk := blt_lt o3
    have hlk := F.2.2.2.2.1 _ (fLk_m o5)
    replace h : (match (generalizing := false) st with
      | .inr (.inr (0, h)) :: st' => (match (generalizing := false) hp[h]? with
        | some (.inl (ci, fs)) => bif Nat.beq ci (a / 100) then (match (generalizing := false) fs[a % 100]? with
          | some (some v) => some (pc + 3, ls, v :: st', hp)
          | _ => none) else none
        | _ => none)
      | _ => none) = some (pc', ls', st', hp') := h
    split at h
    · next h0 r =>
      split at h
      · next ci fs hh =>
        rw [Bool.cond_eq_ite] at h
        split at h
        · next hb =>
          split at h
          · next v hv =>
            cases h
            have e1 := Nat.eq_of_beq_eq_true hb
            subst e1
            have he := wsH_at (cy := cy) (b := b) hlen hh
            exact va_get F.1 F.2.1 F.2.2.2.2.1 (ws_in h11) F.2.2.2.1 F.2.2.2.2.2 hP h0 he (cl_at h11) (a % 100) hk hlk (fun _ z => z) (v := conc (adL b am) v) (by rw [List.getElem?_map, hv]; rfl) hd (kk _ _ _ hL hP hDd hS0)
          · cases h
        · cases h
      · cases h
    · cases h
  | arraylength =>
    replace h : (match (generalizing := false) st with
      | .inr (.inr (0, h)) :: st' => (match (generalizing := false) hp[h]? with
        | some (.inr (3, n, _)) => some (pc + 1, ls, .inl n :: st', hp)
        | _ => none)
      | _ => none) = some (pc', ls', st', hp') := h
    split at h
    · next h0 r =>
      split at h
      · next n fs hh =>
        cases h
        have he := wsH_at (cy := cy) (b := b) hlen hh
        exact va_alen F.1 F.2.1 F.2.2.2.2.2 hP h0 3 he rfl (oi_nat _).symm hd (kk _ _ _ hL hP hDd hS0)
      · cases h
    · cases h
  | aastore =>
    replace h : (match (generalizing := false) st with
      | .inr (.inr (0, v)) :: .inl j :: .inr (.inr (0, h)) :: st' => (match (generalizing := false) hp[h]? with
        | some (.inr (3, n, l)) => (match (generalizing := false) hp[v]? with
          | some (.inl (3, _)) => bif inB j && decide (0 ≤ j) && decide (j < n) && decide (l.length = n) then some (pc + 1, ls, st', hp.set h (.inr (3, n, l.set j.toNat (some v)))) else none
          | _ => none)
        | _ => none)
      | _ => none) = some (pc', ls', st', hp') := h
    split at h
    · next v j h0 r =>
      split at h
      · next n fs hh =>
        split at h
        · next fs2 hv =>
          rw [Bool.cond_eq_ite] at h
          split at h
          · next hb =>
            cases h
            obtain ⟨b1, b2, b3, b4⟩ := and4 hb
            have hj : inR j := by unfold inB at b1; rw [Bool.and_eq_true, decide_eq_true_eq, decide_eq_true_eq] at b1; exact b1
            have b2 := of_decide_eq_true b2
            have b3 := of_decide_eq_true b3
            have b4 := of_decide_eq_true b4
            have he := wsH_at (cy := cy) (b := b) hlen hh
            have hev := wsH_at (cy := cy) (b := b) hlen hv
            have hjl : j.toNat < fs.length := by omega
            refine va_astq F.1 F.2.1 F.2.2.2.2.2 hP hDd hS0 h0 3 v 3 he (r := (RR' 3, TT 3, nF 3)) rfl hev (cl_at (by omega)) (in_oi hj ⟨b2, b3⟩) hd (fun H1 locs1 q1 q2 q3 => ?_)
            rw [tn_oi hj] at q1 q2
            have e3 : (Sum.inl (cy.2.2.2, n, .inr (.inr (.inr (.inr (va_up (fun j => (fs.getD j none).map fun k => am.getD k 0) j.toNat (some (am.getD v 0))))))) : va_E) = ceH cy b am (.inr (3, n, fs.set j.toNat (some v))) := by
              show _ = (Sum.inl (cy.2.2.2, n, .inr (.inr (.inr (.inr fun q => ((fs.set j.toNat (some v)).getD q none).map fun k => am.getD k 0)))) : va_E)
              congr 7
              funext q
              unfold va_up
              by_cases hq : q = j.toNat
              · subst hq
                have e4 : (fs.set j.toNat (some v)).getD j.toNat none = some v := by
                  rw [List.getD_eq_getElem?_getD, List.getElem?_set_self (by omega)]
                  rfl
                rw [if_pos rfl, e4]
                rfl
              · have e4 : (fs.set j.toNat (some v)).getD q none = fs.getD q none := by
                  rw [List.getD_eq_getElem?_getD, List.getElem?_set_ne (Ne.symm hq), ← List.getD_eq_getElem?_getD]
                rw [if_neg hq, e4]
            rw [e3, wsH_set hlen hh] at q1 q2
            exact kk _ _ _ hL q1 q2 q3
          · cases h
        · cases h
      · cases h
    · cases h
  | _ => cases h
end SC

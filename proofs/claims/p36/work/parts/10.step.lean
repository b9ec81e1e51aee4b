/-! soundness of one instruction -/
/-- what stands of a frame -/
def Fr (p : Program) (s : State) (m : MethodId) (args : Array Value) (c : Code) (D : va_G) (cy : Cy) (mi : Nat) : Prop :=
  p.tables.exec = Jvm.exec ∧ c.code = cM mi ∧ c.maxLocals = lM mi ∧ s.vm.findClass (yM mi).cls = some m.cls ∧ (∀ w ∈ lw_good, w.before args s = true) ∧ va_K D vwCl (tysW cy) s
/-- the script's cell, in the law's frame -/
def scOK (S : Sc) (ad : Nat → Nat → Nat) (A : Nat → Prop) (s : State) (H0 : Heap) : Prop := ∀ n xs, S = some (n, xs) → ∃ xs' : Nat → Int32, va_X (ad 51 0) n xs' s H0 ∧ ad 51 0 < H0.size ∧ ¬ A (ad 51 0) ∧ ∀ j, xs j = (xs' j).toInt
theorem lnn_of {mi pc len n : Nat} {i : Jvm.ClassFile.Instr} (hd : decode (cM mi) pc = .ok (i, len)) (hl : lenI i = 0 ∨ lenI i = len) (hn : lenI i = n) (h0 : n ≠ 0) : decode (cM mi) pc = .ok (i, n) := by
  rcases hl with hl | hl
  · exact absurd (hn.symm.trans hl) h0
  · rw [hd, ← hn, hl]
theorem blt_lt {a b : Nat} (h : Nat.blt a b = true) : a < b := Nat.le_of_ble_eq_true h
section ST
variable {p : Program} {l : Launch} {e : Env} {R : Room} {s : State} {m : MethodId} {args : Array Value} {below : List Frame} {meth : Method} {c : Code} {H : Heap} {locs : List Loc} {cells slots : Nat} {Q : State → Prop}
variable {D : va_G} {cy : Cy} {ad : Nat → Nat → Nat} {A : Nat → Prop} {H0 : Heap} {mi : Nat} {S : Sc}
theorem st_iload_n (F : Fr p s m args c D cy mi) {k : Fin 4} {pc a lnn pc' : Nat} {x : Int} {ls ls' : Ls} {st st' : List Vv} {M M' : Mm} (hd : decode (cM mi) pc = .ok (.iload_n k, 1)) (h : sem1 S mi (.iload_n k) lnn a x pc ls st M = some (.inl (pc', ls', st', M'))) {lsC : Array Slot} (hL : LR ad (lM mi) ls lsC) (hP : va_P D vwCl (wsW cy ad M) H) (hS0 : va_S A H0 H locs)
    (kk : ∀ (H1 : Heap) (locs1 : List Loc) (lsC1 : Array Slot), LR ad (lM mi) ls' lsC1 → va_P D vwCl (wsW cy ad M') H1 → va_S A H0 H1 locs1 → W p l e R s m args below meth c H1 locs1 cells slots Q (F0 m pc' lsC1 (st'.map (conc ad)))) : W p l e R s m args below meth c H locs cells slots Q (F0 m pc lsC (st.map (conc ad))) := by
  replace h : ldI ls k (pc + 1) st M = _ := h
  unfold ldI goS at h
  split at h
  · next v g =>
    cases h
    exact lv_iload_n F.1 F.2.1 hd rfl (hL.get g) (kk _ _ _ hL hP hS0)
  · cases h
theorem st_iload (F : Fr p s m args c D cy mi) {k : Nat} {pc a lnn pc' : Nat} {x : Int} {ls ls' : Ls} {st st' : List Vv} {M M' : Mm} (hd : decode (cM mi) pc = .ok (.iload k, 2)) (h : sem1 S mi (.iload k) lnn a x pc ls st M = some (.inl (pc', ls', st', M'))) {lsC : Array Slot} (hL : LR ad (lM mi) ls lsC) (hP : va_P D vwCl (wsW cy ad M) H) (hS0 : va_S A H0 H locs)
    (kk : ∀ (H1 : Heap) (locs1 : List Loc) (lsC1 : Array Slot), LR ad (lM mi) ls' lsC1 → va_P D vwCl (wsW cy ad M') H1 → va_S A H0 H1 locs1 → W p l e R s m args below meth c H1 locs1 cells slots Q (F0 m pc' lsC1 (st'.map (conc ad)))) : W p l e R s m args below meth c H locs cells slots Q (F0 m pc lsC (st.map (conc ad))) := by
  replace h : ldI ls k (pc + 2) st M = _ := h
  unfold ldI goS at h
  split at h
  · next v g =>
    cases h
    exact lv_iload F.1 F.2.1 hd (hL.get g) (kk _ _ _ hL hP hS0)
  · cases h
theorem st_lload_n (F : Fr p s m args c D cy mi) {k : Fin 4} {pc a lnn pc' : Nat} {x : Int} {ls ls' : Ls} {st st' : List Vv} {M M' : Mm} (hd : decode (cM mi) pc = .ok (.lload_n k, 1)) (h : sem1 S mi (.lload_n k) lnn a x pc ls st M = some (.inl (pc', ls', st', M'))) {lsC : Array Slot} (hL : LR ad (lM mi) ls lsC) (hP : va_P D vwCl (wsW cy ad M) H) (hS0 : va_S A H0 H locs)
    (kk : ∀ (H1 : Heap) (locs1 : List Loc) (lsC1 : Array Slot), LR ad (lM mi) ls' lsC1 → va_P D vwCl (wsW cy ad M') H1 → va_S A H0 H1 locs1 → W p l e R s m args below meth c H1 locs1 cells slots Q (F0 m pc' lsC1 (st'.map (conc ad)))) : W p l e R s m args below meth c H locs cells slots Q (F0 m pc lsC (st.map (conc ad))) := by
  replace h : ldJ ls k (pc + 1) st M = _ := h
  unfold ldJ goS at h
  split at h
  · next v g =>
    cases h
    exact lv_lload_n F.1 F.2.1 hd rfl (hL.get g) (kk _ _ _ hL hP hS0)
  · cases h
theorem st_lload (F : Fr p s m args c D cy mi) {k : Nat} {pc a lnn pc' : Nat} {x : Int} {ls ls' : Ls} {st st' : List Vv} {M M' : Mm} (hd : decode (cM mi) pc = .ok (.lload k, 2)) (h : sem1 S mi (.lload k) lnn a x pc ls st M = some (.inl (pc', ls', st', M'))) {lsC : Array Slot} (hL : LR ad (lM mi) ls lsC) (hP : va_P D vwCl (wsW cy ad M) H) (hS0 : va_S A H0 H locs)
    (kk : ∀ (H1 : Heap) (locs1 : List Loc) (lsC1 : Array Slot), LR ad (lM mi) ls' lsC1 → va_P D vwCl (wsW cy ad M') H1 → va_S A H0 H1 locs1 → W p l e R s m args below meth c H1 locs1 cells slots Q (F0 m pc' lsC1 (st'.map (conc ad)))) : W p l e R s m args below meth c H locs cells slots Q (F0 m pc lsC (st.map (conc ad))) := by
  replace h : ldJ ls k (pc + 2) st M = _ := h
  unfold ldJ goS at h
  split at h
  · next v g =>
    cases h
    exact lv_lload F.1 F.2.1 hd (hL.get g) (kk _ _ _ hL hP hS0)
  · cases h
theorem st_aload_n (F : Fr p s m args c D cy mi) {k : Fin 4} {pc a lnn pc' : Nat} {x : Int} {ls ls' : Ls} {st st' : List Vv} {M M' : Mm} (hd : decode (cM mi) pc = .ok (.aload_n k, 1)) (h : sem1 S mi (.aload_n k) lnn a x pc ls st M = some (.inl (pc', ls', st', M'))) {lsC : Array Slot} (hL : LR ad (lM mi) ls lsC) (hP : va_P D vwCl (wsW cy ad M) H) (hS0 : va_S A H0 H locs)
    (kk : ∀ (H1 : Heap) (locs1 : List Loc) (lsC1 : Array Slot), LR ad (lM mi) ls' lsC1 → va_P D vwCl (wsW cy ad M') H1 → va_S A H0 H1 locs1 → W p l e R s m args below meth c H1 locs1 cells slots Q (F0 m pc' lsC1 (st'.map (conc ad)))) : W p l e R s m args below meth c H locs cells slots Q (F0 m pc lsC (st.map (conc ad))) := by
  replace h : ldR ls k (pc + 1) st M = _ := h
  unfold ldR goS at h
  split at h
  · next v g =>
    cases h
    exact lv_aload_n F.1 F.2.1 hd rfl (hL.get g) (kk _ _ _ hL hP hS0)
  · cases h
theorem st_aload (F : Fr p s m args c D cy mi) {k : Nat} {pc a lnn pc' : Nat} {x : Int} {ls ls' : Ls} {st st' : List Vv} {M M' : Mm} (hd : decode (cM mi) pc = .ok (.aload k, 2)) (h : sem1 S mi (.aload k) lnn a x pc ls st M = some (.inl (pc', ls', st', M'))) {lsC : Array Slot} (hL : LR ad (lM mi) ls lsC) (hP : va_P D vwCl (wsW cy ad M) H) (hS0 : va_S A H0 H locs)
    (kk : ∀ (H1 : Heap) (locs1 : List Loc) (lsC1 : Array Slot), LR ad (lM mi) ls' lsC1 → va_P D vwCl (wsW cy ad M') H1 → va_S A H0 H1 locs1 → W p l e R s m args below meth c H1 locs1 cells slots Q (F0 m pc' lsC1 (st'.map (conc ad)))) : W p l e R s m args below meth c H locs cells slots Q (F0 m pc lsC (st.map (conc ad))) := by
  replace h : ldR ls k (pc + 2) st M = _ := h
  unfold ldR goS at h
  split at h
  · next v g =>
    cases h
    exact lv_aload F.1 F.2.1 hd (hL.get g) (kk _ _ _ hL hP hS0)
  · cases h
theorem st_istore_n (F : Fr p s m args c D cy mi) {k : Fin 4} {pc a lnn pc' : Nat} {x : Int} {ls ls' : Ls} {st st' : List Vv} {M M' : Mm} (hd : decode (cM mi) pc = .ok (.istore_n k, 1)) (h : sem1 S mi (.istore_n k) lnn a x pc ls st M = some (.inl (pc', ls', st', M'))) {lsC : Array Slot} (hL : LR ad (lM mi) ls lsC) (hP : va_P D vwCl (wsW cy ad M) H) (hS0 : va_S A H0 H locs)
    (kk : ∀ (H1 : Heap) (locs1 : List Loc) (lsC1 : Array Slot), LR ad (lM mi) ls' lsC1 → va_P D vwCl (wsW cy ad M') H1 → va_S A H0 H1 locs1 → W p l e R s m args below meth c H1 locs1 cells slots Q (F0 m pc' lsC1 (st'.map (conc ad)))) : W p l e R s m args below meth c H locs cells slots Q (F0 m pc lsC (st.map (conc ad))) := by
  replace h : seI ls k (pc + 1) st M = _ := h
  unfold seI goS at h
  split at h
  · next v r =>
    cases hc : Nat.blt k ls.length with
    | false => rw [hc] at h; cases h
    | true =>
      rw [hc] at h
      cases h
      have hi : (k : Nat) < lM mi := hL.1 ▸ blt_lt hc
      exact lv_istore_n F.1 F.2.1 hd rfl hL.2 hi rfl (fun ls1 h1 => kk _ _ _ (LR.st1 hL.1 hi h1) hP hS0)
  · cases h
theorem st_istore (F : Fr p s m args c D cy mi) {k : Nat} {pc a lnn pc' : Nat} {x : Int} {ls ls' : Ls} {st st' : List Vv} {M M' : Mm} (hd : decode (cM mi) pc = .ok (.istore k, 2)) (h : sem1 S mi (.istore k) lnn a x pc ls st M = some (.inl (pc', ls', st', M'))) {lsC : Array Slot} (hL : LR ad (lM mi) ls lsC) (hP : va_P D vwCl (wsW cy ad M) H) (hS0 : va_S A H0 H locs)
    (kk : ∀ (H1 : Heap) (locs1 : List Loc) (lsC1 : Array Slot), LR ad (lM mi) ls' lsC1 → va_P D vwCl (wsW cy ad M') H1 → va_S A H0 H1 locs1 → W p l e R s m args below meth c H1 locs1 cells slots Q (F0 m pc' lsC1 (st'.map (conc ad)))) : W p l e R s m args below meth c H locs cells slots Q (F0 m pc lsC (st.map (conc ad))) := by
  replace h : seI ls k (pc + 2) st M = _ := h
  unfold seI goS at h
  split at h
  · next v r =>
    cases hc : Nat.blt k ls.length with
    | false => rw [hc] at h; cases h
    | true =>
      rw [hc] at h
      cases h
      have hi : (k : Nat) < lM mi := hL.1 ▸ blt_lt hc
      exact lv_istore F.1 F.2.1 hd hL.2 hi rfl (fun ls1 h1 => kk _ _ _ (LR.st1 hL.1 hi h1) hP hS0)
  · cases h
theorem st_astore_n (F : Fr p s m args c D cy mi) {k : Fin 4} {pc a lnn pc' : Nat} {x : Int} {ls ls' : Ls} {st st' : List Vv} {M M' : Mm} (hd : decode (cM mi) pc = .ok (.astore_n k, 1)) (h : sem1 S mi (.astore_n k) lnn a x pc ls st M = some (.inl (pc', ls', st', M'))) {lsC : Array Slot} (hL : LR ad (lM mi) ls lsC) (hP : va_P D vwCl (wsW cy ad M) H) (hS0 : va_S A H0 H locs)
    (kk : ∀ (H1 : Heap) (locs1 : List Loc) (lsC1 : Array Slot), LR ad (lM mi) ls' lsC1 → va_P D vwCl (wsW cy ad M') H1 → va_S A H0 H1 locs1 → W p l e R s m args below meth c H1 locs1 cells slots Q (F0 m pc' lsC1 (st'.map (conc ad)))) : W p l e R s m args below meth c H locs cells slots Q (F0 m pc lsC (st.map (conc ad))) := by
  replace h : seR ls k (pc + 1) st M = _ := h
  unfold seR goS at h
  split at h
  · next v r =>
    cases hc : Nat.blt k ls.length with
    | false => rw [hc] at h; cases h
    | true =>
      rw [hc] at h
      cases h
      have hi : (k : Nat) < lM mi := hL.1 ▸ blt_lt hc
      exact lv_astore_n F.1 F.2.1 hd rfl hL.2 hi rfl (fun ls1 h1 => kk _ _ _ (LR.st1 hL.1 hi h1) hP hS0)
  · cases h
theorem st_astore (F : Fr p s m args c D cy mi) {k : Nat} {pc a lnn pc' : Nat} {x : Int} {ls ls' : Ls} {st st' : List Vv} {M M' : Mm} (hd : decode (cM mi) pc = .ok (.astore k, 2)) (h : sem1 S mi (.astore k) lnn a x pc ls st M = some (.inl (pc', ls', st', M'))) {lsC : Array Slot} (hL : LR ad (lM mi) ls lsC) (hP : va_P D vwCl (wsW cy ad M) H) (hS0 : va_S A H0 H locs)
    (kk : ∀ (H1 : Heap) (locs1 : List Loc) (lsC1 : Array Slot), LR ad (lM mi) ls' lsC1 → va_P D vwCl (wsW cy ad M') H1 → va_S A H0 H1 locs1 → W p l e R s m args below meth c H1 locs1 cells slots Q (F0 m pc' lsC1 (st'.map (conc ad)))) : W p l e R s m args below meth c H locs cells slots Q (F0 m pc lsC (st.map (conc ad))) := by
  replace h : seR ls k (pc + 2) st M = _ := h
  unfold seR goS at h
  split at h
  · next v r =>
    cases hc : Nat.blt k ls.length with
    | false => rw [hc] at h; cases h
    | true =>
      rw [hc] at h
      cases h
      have hi : (k : Nat) < lM mi := hL.1 ▸ blt_lt hc
      exact lv_astore F.1 F.2.1 hd hL.2 hi rfl (fun ls1 h1 => kk _ _ _ (LR.st1 hL.1 hi h1) hP hS0)
  · cases h
theorem st_lstore_n (F : Fr p s m args c D cy mi) {k : Fin 4} {pc a lnn pc' : Nat} {x : Int} {ls ls' : Ls} {st st' : List Vv} {M M' : Mm} (hd : decode (cM mi) pc = .ok (.lstore_n k, 1)) (h : sem1 S mi (.lstore_n k) lnn a x pc ls st M = some (.inl (pc', ls', st', M'))) {lsC : Array Slot} (hL : LR ad (lM mi) ls lsC) (hP : va_P D vwCl (wsW cy ad M) H) (hS0 : va_S A H0 H locs)
    (kk : ∀ (H1 : Heap) (locs1 : List Loc) (lsC1 : Array Slot), LR ad (lM mi) ls' lsC1 → va_P D vwCl (wsW cy ad M') H1 → va_S A H0 H1 locs1 → W p l e R s m args below meth c H1 locs1 cells slots Q (F0 m pc' lsC1 (st'.map (conc ad)))) : W p l e R s m args below meth c H locs cells slots Q (F0 m pc lsC (st.map (conc ad))) := by
  replace h : seJ ls k (pc + 1) st M = _ := h
  unfold seJ goS at h
  split at h
  · next v r =>
    cases hc : Nat.blt ((k : Nat) + 1) ls.length with
    | false => rw [hc] at h; cases h
    | true =>
      rw [hc] at h
      cases h
      have hi : (k : Nat) + 1 < lM mi := hL.1 ▸ blt_lt hc
      exact lv_lstore_n F.1 F.2.1 hd rfl hL.2 hi rfl (fun ls1 h1 => kk _ _ _ (LR.st2 hL.1 hi h1) hP hS0)
  · cases h
theorem st_lstore (F : Fr p s m args c D cy mi) {k : Nat} {pc a lnn pc' : Nat} {x : Int} {ls ls' : Ls} {st st' : List Vv} {M M' : Mm} (hd : decode (cM mi) pc = .ok (.lstore k, 2)) (h : sem1 S mi (.lstore k) lnn a x pc ls st M = some (.inl (pc', ls', st', M'))) {lsC : Array Slot} (hL : LR ad (lM mi) ls lsC) (hP : va_P D vwCl (wsW cy ad M) H) (hS0 : va_S A H0 H locs)
    (kk : ∀ (H1 : Heap) (locs1 : List Loc) (lsC1 : Array Slot), LR ad (lM mi) ls' lsC1 → va_P D vwCl (wsW cy ad M') H1 → va_S A H0 H1 locs1 → W p l e R s m args below meth c H1 locs1 cells slots Q (F0 m pc' lsC1 (st'.map (conc ad)))) : W p l e R s m args below meth c H locs cells slots Q (F0 m pc lsC (st.map (conc ad))) := by
  replace h : seJ ls k (pc + 2) st M = _ := h
  unfold seJ goS at h
  split at h
  · next v r =>
    cases hc : Nat.blt ((k : Nat) + 1) ls.length with
    | false => rw [hc] at h; cases h
    | true =>
      rw [hc] at h
      cases h
      have hi : (k : Nat) + 1 < lM mi := hL.1 ▸ blt_lt hc
      exact lv_lstore F.1 F.2.1 hd hL.2 hi rfl (fun ls1 h1 => kk _ _ _ (LR.st2 hL.1 hi h1) hP hS0)
  · cases h
theorem st_iconst (F : Fr p s m args c D cy mi) {n : Int} {pc a lnn pc' : Nat} {x : Int} {ls ls' : Ls} {st st' : List Vv} {M M' : Mm} (hd : decode (cM mi) pc = .ok (.iconst n, 1)) (h : sem1 S mi (.iconst n) lnn a x pc ls st M = some (.inl (pc', ls', st', M'))) {lsC : Array Slot} (hL : LR ad (lM mi) ls lsC) (hP : va_P D vwCl (wsW cy ad M) H) (hS0 : va_S A H0 H locs)
    (kk : ∀ (H1 : Heap) (locs1 : List Loc) (lsC1 : Array Slot), LR ad (lM mi) ls' lsC1 → va_P D vwCl (wsW cy ad M') H1 → va_S A H0 H1 locs1 → W p l e R s m args below meth c H1 locs1 cells slots Q (F0 m pc' lsC1 (st'.map (conc ad)))) : W p l e R s m args below meth c H locs cells slots Q (F0 m pc lsC (st.map (conc ad))) := by
  cases h
  exact lv_iconst F.1 F.2.1 hd rfl (kk _ _ _ hL hP hS0)
theorem st_bipush (F : Fr p s m args c D cy mi) {n : Int} {pc a lnn pc' : Nat} {x : Int} {ls ls' : Ls} {st st' : List Vv} {M M' : Mm} (hd : decode (cM mi) pc = .ok (.bipush n, 2)) (h : sem1 S mi (.bipush n) lnn a x pc ls st M = some (.inl (pc', ls', st', M'))) {lsC : Array Slot} (hL : LR ad (lM mi) ls lsC) (hP : va_P D vwCl (wsW cy ad M) H) (hS0 : va_S A H0 H locs) (hok : okB (yM mi).cls pc (.bipush n, lnn, a, x) = true)
    (kk : ∀ (H1 : Heap) (locs1 : List Loc) (lsC1 : Array Slot), LR ad (lM mi) ls' lsC1 → va_P D vwCl (wsW cy ad M') H1 → va_S A H0 H1 locs1 → W p l e R s m args below meth c H1 locs1 cells slots Q (F0 m pc' lsC1 (st'.map (conc ad)))) : W p l e R s m args below meth c H locs cells slots Q (F0 m pc lsC (st.map (conc ad))) := by
  cases h
  have hok : (decide (_ = Int32.ofInt n) && decide _ && decide _) = true := hok
  rw [Bool.and_eq_true, Bool.and_eq_true, decide_eq_true_eq] at hok
  exact lv_bipush F.1 F.2.1 hd hok.1.1 (kk _ _ _ hL hP hS0)
theorem st_sipush (F : Fr p s m args c D cy mi) {n : Int} {pc a lnn pc' : Nat} {x : Int} {ls ls' : Ls} {st st' : List Vv} {M M' : Mm} (hd : decode (cM mi) pc = .ok (.sipush n, 3)) (h : sem1 S mi (.sipush n) lnn a x pc ls st M = some (.inl (pc', ls', st', M'))) {lsC : Array Slot} (hL : LR ad (lM mi) ls lsC) (hP : va_P D vwCl (wsW cy ad M) H) (hS0 : va_S A H0 H locs) (hok : okB (yM mi).cls pc (.sipush n, lnn, a, x) = true)
    (kk : ∀ (H1 : Heap) (locs1 : List Loc) (lsC1 : Array Slot), LR ad (lM mi) ls' lsC1 → va_P D vwCl (wsW cy ad M') H1 → va_S A H0 H1 locs1 → W p l e R s m args below meth c H1 locs1 cells slots Q (F0 m pc' lsC1 (st'.map (conc ad)))) : W p l e R s m args below meth c H locs cells slots Q (F0 m pc lsC (st.map (conc ad))) := by
  cases h
  have hok : (decide (_ = Int32.ofInt n) && decide _ && decide _) = true := hok
  rw [Bool.and_eq_true, Bool.and_eq_true, decide_eq_true_eq] at hok
  exact lv_sipush F.1 F.2.1 hd hok.1.1 (kk _ _ _ hL hP hS0)
theorem st_lconst (F : Fr p s m args c D cy mi) {n : Fin 2} {pc a lnn pc' : Nat} {x : Int} {ls ls' : Ls} {st st' : List Vv} {M M' : Mm} (hd : decode (cM mi) pc = .ok (.lconst n, 1)) (h : sem1 S mi (.lconst n) lnn a x pc ls st M = some (.inl (pc', ls', st', M'))) {lsC : Array Slot} (hL : LR ad (lM mi) ls lsC) (hP : va_P D vwCl (wsW cy ad M) H) (hS0 : va_S A H0 H locs)
    (kk : ∀ (H1 : Heap) (locs1 : List Loc) (lsC1 : Array Slot), LR ad (lM mi) ls' lsC1 → va_P D vwCl (wsW cy ad M') H1 → va_S A H0 H1 locs1 → W p l e R s m args below meth c H1 locs1 cells slots Q (F0 m pc' lsC1 (st'.map (conc ad)))) : W p l e R s m args below meth c H locs cells slots Q (F0 m pc lsC (st.map (conc ad))) := by
  cases h
  exact lv_lconst F.1 F.2.1 hd rfl (kk _ _ _ hL hP hS0)
theorem i32_mod (a b : Int32) : a % b = a - a / b * b := by
  apply Int32.toInt_inj.mp
  rw [Int32.toInt_sub, Int32.toInt_mul, Int32.toInt_div]
  simp only [Int.sub_bmod_bmod, Int.bmod_mul_bmod, Int.mul_bmod_bmod]
  have e1 : a.toInt - a.toInt.tdiv b.toInt * b.toInt = (a % b).toInt := by rw [Int32.toInt_mod, Int.tmod_def, Int.mul_comm]
  rw [e1]
  exact (Int32.toInt_bmod _).symm
def kcV (own : String) (idx : Nat) (x : Int) (k : Nat) : Cond := match k with
  | 0 => Cond.constant own idx (Int32.ofInt x)
  | _ => Cond.constantLong own idx (Int64.ofInt x)
theorem kc_0 {own : String} {idx : Nat} {x : Int} {k : Nat} (h : (kcT.any fun q => Nat.beq q.2.2.1 idx && Nat.beq q.2.2.2.1 k && decide (q.2.2.2.2 = x) && decide (ownS q.2.1 = own)) = true) : kcV own idx x k ∈ lw_good := by
  obtain ⟨q, hq, h⟩ := List.any_eq_true.mp h
  simp only [Bool.and_eq_true, decide_eq_true_eq] at h
  obtain ⟨⟨⟨h1, h2⟩, h3⟩, h4⟩ := h
  have h1 := Nat.eq_of_beq_eq_true h1
  have h2 := Nat.eq_of_beq_eq_true h2
  have := good_in (f := kcW) kcT_b (fun a => by unfold kcW; split <;> rfl) hq
  unfold kcW at this
  rw [h1, h2, h3, h4] at this
  exact this
theorem st_ldc (F : Fr p s m args c D cy mi) {n : Nat} {pc a lnn pc' : Nat} {x : Int} {ls ls' : Ls} {st st' : List Vv} {M M' : Mm} (hd : decode (cM mi) pc = .ok (.ldc n, 2)) (h : sem1 S mi (.ldc n) lnn a x pc ls st M = some (.inl (pc', ls', st', M'))) {lsC : Array Slot} (hL : LR ad (lM mi) ls lsC) (hP : va_P D vwCl (wsW cy ad M) H) (hS0 : va_S A H0 H locs) (hok : okB (yM mi).cls pc (.ldc n, lnn, a, x) = true)
    (kk : ∀ (H1 : Heap) (locs1 : List Loc) (lsC1 : Array Slot), LR ad (lM mi) ls' lsC1 → va_P D vwCl (wsW cy ad M') H1 → va_S A H0 H1 locs1 → W p l e R s m args below meth c H1 locs1 cells slots Q (F0 m pc' lsC1 (st'.map (conc ad)))) : W p l e R s m args below meth c H locs cells slots Q (F0 m pc lsC (st.map (conc ad))) := by
  cases h
  exact lv_ldc F.1 F.2.1 F.2.2.2.1 (F.2.2.2.2.1 _ (kc_0 (k := 0) hok)) hd (kk _ _ _ hL hP hS0)
theorem st_ldc_w (F : Fr p s m args c D cy mi) {n : Nat} {pc a lnn pc' : Nat} {x : Int} {ls ls' : Ls} {st st' : List Vv} {M M' : Mm} (hd : decode (cM mi) pc = .ok (.ldc_w n, 3)) (h : sem1 S mi (.ldc_w n) lnn a x pc ls st M = some (.inl (pc', ls', st', M'))) {lsC : Array Slot} (hL : LR ad (lM mi) ls lsC) (hP : va_P D vwCl (wsW cy ad M) H) (hS0 : va_S A H0 H locs) (hok : okB (yM mi).cls pc (.ldc_w n, lnn, a, x) = true)
    (kk : ∀ (H1 : Heap) (locs1 : List Loc) (lsC1 : Array Slot), LR ad (lM mi) ls' lsC1 → va_P D vwCl (wsW cy ad M') H1 → va_S A H0 H1 locs1 → W p l e R s m args below meth c H1 locs1 cells slots Q (F0 m pc' lsC1 (st'.map (conc ad)))) : W p l e R s m args below meth c H locs cells slots Q (F0 m pc lsC (st.map (conc ad))) := by
  cases h
  exact lv_ldcw F.1 F.2.1 F.2.2.2.1 (F.2.2.2.2.1 _ (kc_0 (k := 0) hok)) hd (kk _ _ _ hL hP hS0)
theorem st_ldc2 (F : Fr p s m args c D cy mi) {n : Nat} {pc a lnn pc' : Nat} {x : Int} {ls ls' : Ls} {st st' : List Vv} {M M' : Mm} (hd : decode (cM mi) pc = .ok (.ldc2_w n, 3)) (h : sem1 S mi (.ldc2_w n) lnn a x pc ls st M = some (.inl (pc', ls', st', M'))) {lsC : Array Slot} (hL : LR ad (lM mi) ls lsC) (hP : va_P D vwCl (wsW cy ad M) H) (hS0 : va_S A H0 H locs) (hok : okB (yM mi).cls pc (.ldc2_w n, lnn, a, x) = true)
    (kk : ∀ (H1 : Heap) (locs1 : List Loc) (lsC1 : Array Slot), LR ad (lM mi) ls' lsC1 → va_P D vwCl (wsW cy ad M') H1 → va_S A H0 H1 locs1 → W p l e R s m args below meth c H1 locs1 cells slots Q (F0 m pc' lsC1 (st'.map (conc ad)))) : W p l e R s m args below meth c H locs cells slots Q (F0 m pc lsC (st.map (conc ad))) := by
  cases h
  exact lv_ldc2 F.1 F.2.1 F.2.2.2.1 (F.2.2.2.2.1 _ (kc_0 (k := 1) hok)) hd (kk _ _ _ hL hP hS0)
theorem st_iadd (F : Fr p s m args c D cy mi) {pc a lnn pc' : Nat} {x : Int} {ls ls' : Ls} {st st' : List Vv} {M M' : Mm} (hd : decode (cM mi) pc = .ok (.iadd, 1)) (h : sem1 S mi (.iadd) lnn a x pc ls st M = some (.inl (pc', ls', st', M'))) {lsC : Array Slot} (hL : LR ad (lM mi) ls lsC) (hP : va_P D vwCl (wsW cy ad M) H) (hS0 : va_S A H0 H locs)
    (kk : ∀ (H1 : Heap) (locs1 : List Loc) (lsC1 : Array Slot), LR ad (lM mi) ls' lsC1 → va_P D vwCl (wsW cy ad M') H1 → va_S A H0 H1 locs1 → W p l e R s m args below meth c H1 locs1 cells slots Q (F0 m pc' lsC1 (st'.map (conc ad)))) : W p l e R s m args below meth c H locs cells slots Q (F0 m pc lsC (st.map (conc ad))) := by
  replace h : opI (fun u v => wrap (u + v)) ls (pc + 1) st M = _ := h
  unfold opI goS at h
  split at h
  · next v u r =>
    cases h
    have k1 := kk _ _ _ hL hP hS0
    have eqv : Int32.ofInt (wrap (u + v)) = Int32.ofInt u + Int32.ofInt v := by rw [oi_wrap, Int32.ofInt_add]
    have k2 : W p l e R s m args below meth c H locs cells slots Q (F0 m (pc + 1) lsC (Value.int (Int32.ofInt u + Int32.ofInt v) :: r.map (conc ad))) := eqv ▸ k1
    exact lv_iadd F.1 F.2.1 hd k2
  · cases h
theorem st_isub (F : Fr p s m args c D cy mi) {pc a lnn pc' : Nat} {x : Int} {ls ls' : Ls} {st st' : List Vv} {M M' : Mm} (hd : decode (cM mi) pc = .ok (.isub, 1)) (h : sem1 S mi (.isub) lnn a x pc ls st M = some (.inl (pc', ls', st', M'))) {lsC : Array Slot} (hL : LR ad (lM mi) ls lsC) (hP : va_P D vwCl (wsW cy ad M) H) (hS0 : va_S A H0 H locs)
    (kk : ∀ (H1 : Heap) (locs1 : List Loc) (lsC1 : Array Slot), LR ad (lM mi) ls' lsC1 → va_P D vwCl (wsW cy ad M') H1 → va_S A H0 H1 locs1 → W p l e R s m args below meth c H1 locs1 cells slots Q (F0 m pc' lsC1 (st'.map (conc ad)))) : W p l e R s m args below meth c H locs cells slots Q (F0 m pc lsC (st.map (conc ad))) := by
  replace h : opI (fun u v => wrap (u - v)) ls (pc + 1) st M = _ := h
  unfold opI goS at h
  split at h
  · next v u r =>
    cases h
    have k1 := kk _ _ _ hL hP hS0
    have eqv : Int32.ofInt (wrap (u - v)) = Int32.ofInt u - Int32.ofInt v := by rw [oi_wrap, Int32.ofInt_sub]
    have k2 : W p l e R s m args below meth c H locs cells slots Q (F0 m (pc + 1) lsC (Value.int (Int32.ofInt u - Int32.ofInt v) :: r.map (conc ad))) := eqv ▸ k1
    exact lv_isub F.1 F.2.1 hd k2
  · cases h
theorem st_imul (F : Fr p s m args c D cy mi) {pc a lnn pc' : Nat} {x : Int} {ls ls' : Ls} {st st' : List Vv} {M M' : Mm} (hd : decode (cM mi) pc = .ok (.imul, 1)) (h : sem1 S mi (.imul) lnn a x pc ls st M = some (.inl (pc', ls', st', M'))) {lsC : Array Slot} (hL : LR ad (lM mi) ls lsC) (hP : va_P D vwCl (wsW cy ad M) H) (hS0 : va_S A H0 H locs)
    (kk : ∀ (H1 : Heap) (locs1 : List Loc) (lsC1 : Array Slot), LR ad (lM mi) ls' lsC1 → va_P D vwCl (wsW cy ad M') H1 → va_S A H0 H1 locs1 → W p l e R s m args below meth c H1 locs1 cells slots Q (F0 m pc' lsC1 (st'.map (conc ad)))) : W p l e R s m args below meth c H locs cells slots Q (F0 m pc lsC (st.map (conc ad))) := by
  replace h : opI (fun u v => wrap (u * v)) ls (pc + 1) st M = _ := h
  unfold opI goS at h
  split at h
  · next v u r =>
    cases h
    have k1 := kk _ _ _ hL hP hS0
    have eqv : Int32.ofInt (wrap (u * v)) = Int32.ofInt u * Int32.ofInt v := by rw [oi_wrap, Int32.ofInt_mul]
    have k2 : W p l e R s m args below meth c H locs cells slots Q (F0 m (pc + 1) lsC (Value.int (Int32.ofInt u * Int32.ofInt v) :: r.map (conc ad))) := eqv ▸ k1
    exact lv_imul F.1 F.2.1 hd k2
  · cases h
theorem st_iand (F : Fr p s m args c D cy mi) {pc a lnn pc' : Nat} {x : Int} {ls ls' : Ls} {st st' : List Vv} {M M' : Mm} (hd : decode (cM mi) pc = .ok (.iand, 1)) (h : sem1 S mi (.iand) lnn a x pc ls st M = some (.inl (pc', ls', st', M'))) {lsC : Array Slot} (hL : LR ad (lM mi) ls lsC) (hP : va_P D vwCl (wsW cy ad M) H) (hS0 : va_S A H0 H locs)
    (kk : ∀ (H1 : Heap) (locs1 : List Loc) (lsC1 : Array Slot), LR ad (lM mi) ls' lsC1 → va_P D vwCl (wsW cy ad M') H1 → va_S A H0 H1 locs1 → W p l e R s m args below meth c H1 locs1 cells slots Q (F0 m pc' lsC1 (st'.map (conc ad)))) : W p l e R s m args below meth c H locs cells slots Q (F0 m pc lsC (st.map (conc ad))) := by
  replace h : opI ian ls (pc + 1) st M = _ := h
  unfold opI goS at h
  split at h
  · next v u r =>
    cases h
    have k1 := kk _ _ _ hL hP hS0
    have eqv : Int32.ofInt (ian u v) = Int32.ofInt u &&& Int32.ofInt v := oi_ti _
    have k2 : W p l e R s m args below meth c H locs cells slots Q (F0 m (pc + 1) lsC (Value.int (Int32.ofInt u &&& Int32.ofInt v) :: r.map (conc ad))) := eqv ▸ k1
    exact lv_iand F.1 F.2.1 hd k2
  · cases h
theorem st_ior (F : Fr p s m args c D cy mi) {pc a lnn pc' : Nat} {x : Int} {ls ls' : Ls} {st st' : List Vv} {M M' : Mm} (hd : decode (cM mi) pc = .ok (.ior, 1)) (h : sem1 S mi (.ior) lnn a x pc ls st M = some (.inl (pc', ls', st', M'))) {lsC : Array Slot} (hL : LR ad (lM mi) ls lsC) (hP : va_P D vwCl (wsW cy ad M) H) (hS0 : va_S A H0 H locs)
    (kk : ∀ (H1 : Heap) (locs1 : List Loc) (lsC1 : Array Slot), LR ad (lM mi) ls' lsC1 → va_P D vwCl (wsW cy ad M') H1 → va_S A H0 H1 locs1 → W p l e R s m args below meth c H1 locs1 cells slots Q (F0 m pc' lsC1 (st'.map (conc ad)))) : W p l e R s m args below meth c H locs cells slots Q (F0 m pc lsC (st.map (conc ad))) := by
  replace h : opI ior' ls (pc + 1) st M = _ := h
  unfold opI goS at h
  split at h
  · next v u r =>
    cases h
    have k1 := kk _ _ _ hL hP hS0
    have eqv : Int32.ofInt (ior' u v) = Int32.ofInt u ||| Int32.ofInt v := oi_ti _
    have k2 : W p l e R s m args below meth c H locs cells slots Q (F0 m (pc + 1) lsC (Value.int (Int32.ofInt u ||| Int32.ofInt v) :: r.map (conc ad))) := eqv ▸ k1
    exact lv_ior F.1 F.2.1 hd k2
  · cases h
theorem st_ixor (F : Fr p s m args c D cy mi) {pc a lnn pc' : Nat} {x : Int} {ls ls' : Ls} {st st' : List Vv} {M M' : Mm} (hd : decode (cM mi) pc = .ok (.ixor, 1)) (h : sem1 S mi (.ixor) lnn a x pc ls st M = some (.inl (pc', ls', st', M'))) {lsC : Array Slot} (hL : LR ad (lM mi) ls lsC) (hP : va_P D vwCl (wsW cy ad M) H) (hS0 : va_S A H0 H locs)
    (kk : ∀ (H1 : Heap) (locs1 : List Loc) (lsC1 : Array Slot), LR ad (lM mi) ls' lsC1 → va_P D vwCl (wsW cy ad M') H1 → va_S A H0 H1 locs1 → W p l e R s m args below meth c H1 locs1 cells slots Q (F0 m pc' lsC1 (st'.map (conc ad)))) : W p l e R s m args below meth c H locs cells slots Q (F0 m pc lsC (st.map (conc ad))) := by
  replace h : opI ixr ls (pc + 1) st M = _ := h
  unfold opI goS at h
  split at h
  · next v u r =>
    cases h
    have k1 := kk _ _ _ hL hP hS0
    have eqv : Int32.ofInt (ixr u v) = Int32.ofInt u ^^^ Int32.ofInt v := oi_ti _
    have k2 : W p l e R s m args below meth c H locs cells slots Q (F0 m (pc + 1) lsC (Value.int (Int32.ofInt u ^^^ Int32.ofInt v) :: r.map (conc ad))) := eqv ▸ k1
    exact lv_ixor F.1 F.2.1 hd k2
  · cases h
theorem st_ishl (F : Fr p s m args c D cy mi) {pc a lnn pc' : Nat} {x : Int} {ls ls' : Ls} {st st' : List Vv} {M M' : Mm} (hd : decode (cM mi) pc = .ok (.ishl, 1)) (h : sem1 S mi (.ishl) lnn a x pc ls st M = some (.inl (pc', ls', st', M'))) {lsC : Array Slot} (hL : LR ad (lM mi) ls lsC) (hP : va_P D vwCl (wsW cy ad M) H) (hS0 : va_S A H0 H locs)
    (kk : ∀ (H1 : Heap) (locs1 : List Loc) (lsC1 : Array Slot), LR ad (lM mi) ls' lsC1 → va_P D vwCl (wsW cy ad M') H1 → va_S A H0 H1 locs1 → W p l e R s m args below meth c H1 locs1 cells slots Q (F0 m pc' lsC1 (st'.map (conc ad)))) : W p l e R s m args below meth c H locs cells slots Q (F0 m pc lsC (st.map (conc ad))) := by
  replace h : opI ish ls (pc + 1) st M = _ := h
  unfold opI goS at h
  split at h
  · next v u r =>
    cases h
    have k1 := kk _ _ _ hL hP hS0
    have eqv : Int32.ofInt (ish u v) = Int32.ofInt u <<< (Int32.ofInt v &&& 31) := oi_ti _
    have k2 : W p l e R s m args below meth c H locs cells slots Q (F0 m (pc + 1) lsC (Value.int (Int32.ofInt u <<< (Int32.ofInt v &&& 31)) :: r.map (conc ad))) := eqv ▸ k1
    exact lv_ishl F.1 F.2.1 hd k2
  · cases h
theorem st_ishr (F : Fr p s m args c D cy mi) {pc a lnn pc' : Nat} {x : Int} {ls ls' : Ls} {st st' : List Vv} {M M' : Mm} (hd : decode (cM mi) pc = .ok (.ishr, 1)) (h : sem1 S mi (.ishr) lnn a x pc ls st M = some (.inl (pc', ls', st', M'))) {lsC : Array Slot} (hL : LR ad (lM mi) ls lsC) (hP : va_P D vwCl (wsW cy ad M) H) (hS0 : va_S A H0 H locs)
    (kk : ∀ (H1 : Heap) (locs1 : List Loc) (lsC1 : Array Slot), LR ad (lM mi) ls' lsC1 → va_P D vwCl (wsW cy ad M') H1 → va_S A H0 H1 locs1 → W p l e R s m args below meth c H1 locs1 cells slots Q (F0 m pc' lsC1 (st'.map (conc ad)))) : W p l e R s m args below meth c H locs cells slots Q (F0 m pc lsC (st.map (conc ad))) := by
  replace h : opI isr ls (pc + 1) st M = _ := h
  unfold opI goS at h
  split at h
  · next v u r =>
    cases h
    have k1 := kk _ _ _ hL hP hS0
    have eqv : Int32.ofInt (isr u v) = Int32.ofInt u >>> (Int32.ofInt v &&& 31) := oi_ti _
    have k2 : W p l e R s m args below meth c H locs cells slots Q (F0 m (pc + 1) lsC (Value.int (Int32.ofInt u >>> (Int32.ofInt v &&& 31)) :: r.map (conc ad))) := eqv ▸ k1
    exact lv_ishr F.1 F.2.1 hd k2
  · cases h
theorem st_iushr (F : Fr p s m args c D cy mi) {pc a lnn pc' : Nat} {x : Int} {ls ls' : Ls} {st st' : List Vv} {M M' : Mm} (hd : decode (cM mi) pc = .ok (.iushr, 1)) (h : sem1 S mi (.iushr) lnn a x pc ls st M = some (.inl (pc', ls', st', M'))) {lsC : Array Slot} (hL : LR ad (lM mi) ls lsC) (hP : va_P D vwCl (wsW cy ad M) H) (hS0 : va_S A H0 H locs)
    (kk : ∀ (H1 : Heap) (locs1 : List Loc) (lsC1 : Array Slot), LR ad (lM mi) ls' lsC1 → va_P D vwCl (wsW cy ad M') H1 → va_S A H0 H1 locs1 → W p l e R s m args below meth c H1 locs1 cells slots Q (F0 m pc' lsC1 (st'.map (conc ad)))) : W p l e R s m args below meth c H locs cells slots Q (F0 m pc lsC (st.map (conc ad))) := by
  replace h : opI ius ls (pc + 1) st M = _ := h
  unfold opI goS at h
  split at h
  · next v u r =>
    cases h
    have k1 := kk _ _ _ hL hP hS0
    have eqv : Int32.ofInt (ius u v) = ((Int32.ofInt u).toUInt32 >>> ((Int32.ofInt v).toUInt32 &&& Int32.toUInt32 31)).toInt32 := oi_ti _
    have k2 : W p l e R s m args below meth c H locs cells slots Q (F0 m (pc + 1) lsC (Value.int (((Int32.ofInt u).toUInt32 >>> ((Int32.ofInt v).toUInt32 &&& Int32.toUInt32 31)).toInt32) :: r.map (conc ad))) := eqv ▸ k1
    exact lv_iushr F.1 F.2.1 hd rfl k2
  · cases h
theorem st_idiv (F : Fr p s m args c D cy mi) {pc a lnn pc' : Nat} {x : Int} {ls ls' : Ls} {st st' : List Vv} {M M' : Mm} (hd : decode (cM mi) pc = .ok (.idiv, 1)) (h : sem1 S mi (.idiv) lnn a x pc ls st M = some (.inl (pc', ls', st', M'))) {lsC : Array Slot} (hL : LR ad (lM mi) ls lsC) (hP : va_P D vwCl (wsW cy ad M) H) (hS0 : va_S A H0 H locs) (hst : ∀ v ∈ st, okV v)
    (kk : ∀ (H1 : Heap) (locs1 : List Loc) (lsC1 : Array Slot), LR ad (lM mi) ls' lsC1 → va_P D vwCl (wsW cy ad M') H1 → va_S A H0 H1 locs1 → W p l e R s m args below meth c H1 locs1 cells slots Q (F0 m pc' lsC1 (st'.map (conc ad)))) : W p l e R s m args below meth c H locs cells slots Q (F0 m pc lsC (st.map (conc ad))) := by
  replace h : (match st with
    | .inl y :: .inl x :: st' => if y = 0 then none else goS (pc + 1) ls (.inl (idv x y) :: st') M
    | _ => none) = some _ := h
  unfold goS at h
  split at h
  · next v u r =>
    split at h
    · cases h
    · next hv =>
      cases h
      have k1 := kk _ _ _ hL hP hS0
      have eqv : Int32.ofInt (idv u v) = Int32.ofInt u / Int32.ofInt v := oi_ti _
      have k2 : W p l e R s m args below meth c H locs cells slots Q (F0 m (pc + 1) lsC (Value.int (Int32.ofInt u / Int32.ofInt v) :: r.map (conc ad))) := eqv ▸ k1
      have hn : inR v := hst (.inl v) List.mem_cons_self
      exact lv_idiv F.1 F.2.1 hd (fun h0 => hv ((oi_eq hn in_0).mp h0)) k2
  · cases h
theorem st_irem (F : Fr p s m args c D cy mi) {pc a lnn pc' : Nat} {x : Int} {ls ls' : Ls} {st st' : List Vv} {M M' : Mm} (hd : decode (cM mi) pc = .ok (.irem, 1)) (h : sem1 S mi (.irem) lnn a x pc ls st M = some (.inl (pc', ls', st', M'))) {lsC : Array Slot} (hL : LR ad (lM mi) ls lsC) (hP : va_P D vwCl (wsW cy ad M) H) (hS0 : va_S A H0 H locs) (hst : ∀ v ∈ st, okV v)
    (kk : ∀ (H1 : Heap) (locs1 : List Loc) (lsC1 : Array Slot), LR ad (lM mi) ls' lsC1 → va_P D vwCl (wsW cy ad M') H1 → va_S A H0 H1 locs1 → W p l e R s m args below meth c H1 locs1 cells slots Q (F0 m pc' lsC1 (st'.map (conc ad)))) : W p l e R s m args below meth c H locs cells slots Q (F0 m pc lsC (st.map (conc ad))) := by
  replace h : (match st with
    | .inl y :: .inl x :: st' => if y = 0 then none else goS (pc + 1) ls (.inl (irm x y) :: st') M
    | _ => none) = some _ := h
  unfold goS at h
  split at h
  · next v u r =>
    split at h
    · cases h
    · next hv =>
      cases h
      have k1 := kk _ _ _ hL hP hS0
      have eqv : Int32.ofInt (irm u v) = Int32.ofInt u % Int32.ofInt v := oi_ti _
      have k2 : W p l e R s m args below meth c H locs cells slots Q (F0 m (pc + 1) lsC (Value.int (Int32.ofInt u % Int32.ofInt v) :: r.map (conc ad))) := eqv ▸ k1
      have hn : inR v := hst (.inl v) List.mem_cons_self
      rw [i32_mod] at k2
      exact lv_irem F.1 F.2.1 hd (fun h0 => hv ((oi_eq hn in_0).mp h0)) k2
  · cases h
theorem st_ineg (F : Fr p s m args c D cy mi) {pc a lnn pc' : Nat} {x : Int} {ls ls' : Ls} {st st' : List Vv} {M M' : Mm} (hd : decode (cM mi) pc = .ok (.ineg, 1)) (h : sem1 S mi (.ineg) lnn a x pc ls st M = some (.inl (pc', ls', st', M'))) {lsC : Array Slot} (hL : LR ad (lM mi) ls lsC) (hP : va_P D vwCl (wsW cy ad M) H) (hS0 : va_S A H0 H locs)
    (kk : ∀ (H1 : Heap) (locs1 : List Loc) (lsC1 : Array Slot), LR ad (lM mi) ls' lsC1 → va_P D vwCl (wsW cy ad M') H1 → va_S A H0 H1 locs1 → W p l e R s m args below meth c H1 locs1 cells slots Q (F0 m pc' lsC1 (st'.map (conc ad)))) : W p l e R s m args below meth c H locs cells slots Q (F0 m pc lsC (st.map (conc ad))) := by
  replace h : (match st with
    | .inl x :: st' => goS (pc + 1) ls (.inl (wrap (-x)) :: st') M
    | _ => none) = some _ := h
  unfold goS at h
  split at h
  · next v r =>
    cases h
    have k1 := kk _ _ _ hL hP hS0
    have ee : Int32.ofInt (wrap (-v)) = -Int32.ofInt v := by rw [oi_wrap, Int32.ofInt_neg]
    have k2 : W p l e R s m args below meth c H locs cells slots Q (F0 m (pc + 1) lsC (Value.int (-Int32.ofInt v) :: r.map (conc ad))) := ee ▸ k1
    exact lv_ineg F.1 F.2.1 hd k2
  · cases h
theorem st_pop (F : Fr p s m args c D cy mi) {pc a lnn pc' : Nat} {x : Int} {ls ls' : Ls} {st st' : List Vv} {M M' : Mm} (hd : decode (cM mi) pc = .ok (.pop, 1)) (h : sem1 S mi (.pop) lnn a x pc ls st M = some (.inl (pc', ls', st', M'))) {lsC : Array Slot} (hL : LR ad (lM mi) ls lsC) (hP : va_P D vwCl (wsW cy ad M) H) (hS0 : va_S A H0 H locs)
    (kk : ∀ (H1 : Heap) (locs1 : List Loc) (lsC1 : Array Slot), LR ad (lM mi) ls' lsC1 → va_P D vwCl (wsW cy ad M') H1 → va_S A H0 H1 locs1 → W p l e R s m args below meth c H1 locs1 cells slots Q (F0 m pc' lsC1 (st'.map (conc ad)))) : W p l e R s m args below meth c H locs cells slots Q (F0 m pc lsC (st.map (conc ad))) := by
  replace h : (match st with
    | .inl _ :: st' => goS (pc + 1) ls st' M
    | _ => none) = some _ := h
  unfold goS at h
  split at h
  · next v r =>
    cases h
    have k1 := kk _ _ _ hL hP hS0
    exact lv_pop F.1 F.2.1 hd rfl k1
  · cases h
theorem st_ladd (F : Fr p s m args c D cy mi) {pc a lnn pc' : Nat} {x : Int} {ls ls' : Ls} {st st' : List Vv} {M M' : Mm} (hd : decode (cM mi) pc = .ok (.ladd, 1)) (h : sem1 S mi (.ladd) lnn a x pc ls st M = some (.inl (pc', ls', st', M'))) {lsC : Array Slot} (hL : LR ad (lM mi) ls lsC) (hP : va_P D vwCl (wsW cy ad M) H) (hS0 : va_S A H0 H locs)
    (kk : ∀ (H1 : Heap) (locs1 : List Loc) (lsC1 : Array Slot), LR ad (lM mi) ls' lsC1 → va_P D vwCl (wsW cy ad M') H1 → va_S A H0 H1 locs1 → W p l e R s m args below meth c H1 locs1 cells slots Q (F0 m pc' lsC1 (st'.map (conc ad)))) : W p l e R s m args below meth c H locs cells slots Q (F0 m pc lsC (st.map (conc ad))) := by
  replace h : opJ (fun u v => u + v) ls (pc + 1) st M = _ := h
  unfold opJ goS at h
  split at h
  · cases h
    exact lv_ladd F.1 F.2.1 hd (kk _ _ _ hL hP hS0)
  · cases h
theorem st_lsub (F : Fr p s m args c D cy mi) {pc a lnn pc' : Nat} {x : Int} {ls ls' : Ls} {st st' : List Vv} {M M' : Mm} (hd : decode (cM mi) pc = .ok (.lsub, 1)) (h : sem1 S mi (.lsub) lnn a x pc ls st M = some (.inl (pc', ls', st', M'))) {lsC : Array Slot} (hL : LR ad (lM mi) ls lsC) (hP : va_P D vwCl (wsW cy ad M) H) (hS0 : va_S A H0 H locs)
    (kk : ∀ (H1 : Heap) (locs1 : List Loc) (lsC1 : Array Slot), LR ad (lM mi) ls' lsC1 → va_P D vwCl (wsW cy ad M') H1 → va_S A H0 H1 locs1 → W p l e R s m args below meth c H1 locs1 cells slots Q (F0 m pc' lsC1 (st'.map (conc ad)))) : W p l e R s m args below meth c H locs cells slots Q (F0 m pc lsC (st.map (conc ad))) := by
  replace h : opJ (fun u v => u - v) ls (pc + 1) st M = _ := h
  unfold opJ goS at h
  split at h
  · cases h
    exact lv_lsub F.1 F.2.1 hd (kk _ _ _ hL hP hS0)
  · cases h
theorem st_land (F : Fr p s m args c D cy mi) {pc a lnn pc' : Nat} {x : Int} {ls ls' : Ls} {st st' : List Vv} {M M' : Mm} (hd : decode (cM mi) pc = .ok (.land, 1)) (h : sem1 S mi (.land) lnn a x pc ls st M = some (.inl (pc', ls', st', M'))) {lsC : Array Slot} (hL : LR ad (lM mi) ls lsC) (hP : va_P D vwCl (wsW cy ad M) H) (hS0 : va_S A H0 H locs)
    (kk : ∀ (H1 : Heap) (locs1 : List Loc) (lsC1 : Array Slot), LR ad (lM mi) ls' lsC1 → va_P D vwCl (wsW cy ad M') H1 → va_S A H0 H1 locs1 → W p l e R s m args below meth c H1 locs1 cells slots Q (F0 m pc' lsC1 (st'.map (conc ad)))) : W p l e R s m args below meth c H locs cells slots Q (F0 m pc lsC (st.map (conc ad))) := by
  replace h : opJ (fun u v => u &&& v) ls (pc + 1) st M = _ := h
  unfold opJ goS at h
  split at h
  · cases h
    exact lv_land F.1 F.2.1 hd (kk _ _ _ hL hP hS0)
  · cases h
theorem st_lor (F : Fr p s m args c D cy mi) {pc a lnn pc' : Nat} {x : Int} {ls ls' : Ls} {st st' : List Vv} {M M' : Mm} (hd : decode (cM mi) pc = .ok (.lor, 1)) (h : sem1 S mi (.lor) lnn a x pc ls st M = some (.inl (pc', ls', st', M'))) {lsC : Array Slot} (hL : LR ad (lM mi) ls lsC) (hP : va_P D vwCl (wsW cy ad M) H) (hS0 : va_S A H0 H locs)
    (kk : ∀ (H1 : Heap) (locs1 : List Loc) (lsC1 : Array Slot), LR ad (lM mi) ls' lsC1 → va_P D vwCl (wsW cy ad M') H1 → va_S A H0 H1 locs1 → W p l e R s m args below meth c H1 locs1 cells slots Q (F0 m pc' lsC1 (st'.map (conc ad)))) : W p l e R s m args below meth c H locs cells slots Q (F0 m pc lsC (st.map (conc ad))) := by
  replace h : opJ (fun u v => u ||| v) ls (pc + 1) st M = _ := h
  unfold opJ goS at h
  split at h
  · cases h
    exact lv_lor F.1 F.2.1 hd (kk _ _ _ hL hP hS0)
  · cases h
theorem st_lxor (F : Fr p s m args c D cy mi) {pc a lnn pc' : Nat} {x : Int} {ls ls' : Ls} {st st' : List Vv} {M M' : Mm} (hd : decode (cM mi) pc = .ok (.lxor, 1)) (h : sem1 S mi (.lxor) lnn a x pc ls st M = some (.inl (pc', ls', st', M'))) {lsC : Array Slot} (hL : LR ad (lM mi) ls lsC) (hP : va_P D vwCl (wsW cy ad M) H) (hS0 : va_S A H0 H locs)
    (kk : ∀ (H1 : Heap) (locs1 : List Loc) (lsC1 : Array Slot), LR ad (lM mi) ls' lsC1 → va_P D vwCl (wsW cy ad M') H1 → va_S A H0 H1 locs1 → W p l e R s m args below meth c H1 locs1 cells slots Q (F0 m pc' lsC1 (st'.map (conc ad)))) : W p l e R s m args below meth c H locs cells slots Q (F0 m pc lsC (st.map (conc ad))) := by
  replace h : opJ (fun u v => u ^^^ v) ls (pc + 1) st M = _ := h
  unfold opJ goS at h
  split at h
  · cases h
    exact lv_lxor F.1 F.2.1 hd (kk _ _ _ hL hP hS0)
  · cases h
theorem st_lshl (F : Fr p s m args c D cy mi) {pc a lnn pc' : Nat} {x : Int} {ls ls' : Ls} {st st' : List Vv} {M M' : Mm} (hd : decode (cM mi) pc = .ok (.lshl, 1)) (h : sem1 S mi (.lshl) lnn a x pc ls st M = some (.inl (pc', ls', st', M'))) {lsC : Array Slot} (hL : LR ad (lM mi) ls lsC) (hP : va_P D vwCl (wsW cy ad M) H) (hS0 : va_S A H0 H locs)
    (kk : ∀ (H1 : Heap) (locs1 : List Loc) (lsC1 : Array Slot), LR ad (lM mi) ls' lsC1 → va_P D vwCl (wsW cy ad M') H1 → va_S A H0 H1 locs1 → W p l e R s m args below meth c H1 locs1 cells slots Q (F0 m pc' lsC1 (st'.map (conc ad)))) : W p l e R s m args below meth c H locs cells slots Q (F0 m pc lsC (st.map (conc ad))) := by
  replace h : opS lsh ls (pc + 1) st M = _ := h
  unfold opS goS at h
  split at h
  · cases h
    exact lv_lshl F.1 F.2.1 hd rfl (kk _ _ _ hL hP hS0)
  · cases h
theorem st_lshr (F : Fr p s m args c D cy mi) {pc a lnn pc' : Nat} {x : Int} {ls ls' : Ls} {st st' : List Vv} {M M' : Mm} (hd : decode (cM mi) pc = .ok (.lshr, 1)) (h : sem1 S mi (.lshr) lnn a x pc ls st M = some (.inl (pc', ls', st', M'))) {lsC : Array Slot} (hL : LR ad (lM mi) ls lsC) (hP : va_P D vwCl (wsW cy ad M) H) (hS0 : va_S A H0 H locs)
    (kk : ∀ (H1 : Heap) (locs1 : List Loc) (lsC1 : Array Slot), LR ad (lM mi) ls' lsC1 → va_P D vwCl (wsW cy ad M') H1 → va_S A H0 H1 locs1 → W p l e R s m args below meth c H1 locs1 cells slots Q (F0 m pc' lsC1 (st'.map (conc ad)))) : W p l e R s m args below meth c H locs cells slots Q (F0 m pc lsC (st.map (conc ad))) := by
  replace h : opS lsr ls (pc + 1) st M = _ := h
  unfold opS goS at h
  split at h
  · cases h
    exact lv_lshr F.1 F.2.1 hd rfl (kk _ _ _ hL hP hS0)
  · cases h
theorem st_lushr (F : Fr p s m args c D cy mi) {pc a lnn pc' : Nat} {x : Int} {ls ls' : Ls} {st st' : List Vv} {M M' : Mm} (hd : decode (cM mi) pc = .ok (.lushr, 1)) (h : sem1 S mi (.lushr) lnn a x pc ls st M = some (.inl (pc', ls', st', M'))) {lsC : Array Slot} (hL : LR ad (lM mi) ls lsC) (hP : va_P D vwCl (wsW cy ad M) H) (hS0 : va_S A H0 H locs)
    (kk : ∀ (H1 : Heap) (locs1 : List Loc) (lsC1 : Array Slot), LR ad (lM mi) ls' lsC1 → va_P D vwCl (wsW cy ad M') H1 → va_S A H0 H1 locs1 → W p l e R s m args below meth c H1 locs1 cells slots Q (F0 m pc' lsC1 (st'.map (conc ad)))) : W p l e R s m args below meth c H locs cells slots Q (F0 m pc lsC (st.map (conc ad))) := by
  replace h : opS lus ls (pc + 1) st M = _ := h
  unfold opS goS at h
  split at h
  · cases h
    exact lv_lushr F.1 F.2.1 hd rfl (kk _ _ _ hL hP hS0)
  · cases h
theorem st_lneg (F : Fr p s m args c D cy mi) {pc a lnn pc' : Nat} {x : Int} {ls ls' : Ls} {st st' : List Vv} {M M' : Mm} (hd : decode (cM mi) pc = .ok (.lneg, 1)) (h : sem1 S mi (.lneg) lnn a x pc ls st M = some (.inl (pc', ls', st', M'))) {lsC : Array Slot} (hL : LR ad (lM mi) ls lsC) (hP : va_P D vwCl (wsW cy ad M) H) (hS0 : va_S A H0 H locs)
    (kk : ∀ (H1 : Heap) (locs1 : List Loc) (lsC1 : Array Slot), LR ad (lM mi) ls' lsC1 → va_P D vwCl (wsW cy ad M') H1 → va_S A H0 H1 locs1 → W p l e R s m args below meth c H1 locs1 cells slots Q (F0 m pc' lsC1 (st'.map (conc ad)))) : W p l e R s m args below meth c H locs cells slots Q (F0 m pc lsC (st.map (conc ad))) := by
  replace h : (match st with
    | .inr (.inl x) :: st' => goS (pc + 1) ls (.inr (.inl (-x)) :: st') M
    | _ => none) = some _ := h
  unfold goS at h
  split at h
  · cases h
    exact lv_lneg F.1 F.2.1 hd (kk _ _ _ hL hP hS0)
  · cases h
theorem st_i2l (F : Fr p s m args c D cy mi) {pc a lnn pc' : Nat} {x : Int} {ls ls' : Ls} {st st' : List Vv} {M M' : Mm} (hd : decode (cM mi) pc = .ok (.i2l, 1)) (h : sem1 S mi (.i2l) lnn a x pc ls st M = some (.inl (pc', ls', st', M'))) {lsC : Array Slot} (hL : LR ad (lM mi) ls lsC) (hP : va_P D vwCl (wsW cy ad M) H) (hS0 : va_S A H0 H locs)
    (kk : ∀ (H1 : Heap) (locs1 : List Loc) (lsC1 : Array Slot), LR ad (lM mi) ls' lsC1 → va_P D vwCl (wsW cy ad M') H1 → va_S A H0 H1 locs1 → W p l e R s m args below meth c H1 locs1 cells slots Q (F0 m pc' lsC1 (st'.map (conc ad)))) : W p l e R s m args below meth c H locs cells slots Q (F0 m pc lsC (st.map (conc ad))) := by
  replace h : (match st with
    | .inl x :: st' => goS (pc + 1) ls (.inr (.inl (Int32.ofInt x).toInt64) :: st') M
    | _ => none) = some _ := h
  unfold goS at h
  split at h
  · cases h
    exact lv_i2l F.1 F.2.1 hd rfl (kk _ _ _ hL hP hS0)
  · cases h
theorem st_l2i (F : Fr p s m args c D cy mi) {pc a lnn pc' : Nat} {x : Int} {ls ls' : Ls} {st st' : List Vv} {M M' : Mm} (hd : decode (cM mi) pc = .ok (.l2i, 1)) (h : sem1 S mi (.l2i) lnn a x pc ls st M = some (.inl (pc', ls', st', M'))) {lsC : Array Slot} (hL : LR ad (lM mi) ls lsC) (hP : va_P D vwCl (wsW cy ad M) H) (hS0 : va_S A H0 H locs)
    (kk : ∀ (H1 : Heap) (locs1 : List Loc) (lsC1 : Array Slot), LR ad (lM mi) ls' lsC1 → va_P D vwCl (wsW cy ad M') H1 → va_S A H0 H1 locs1 → W p l e R s m args below meth c H1 locs1 cells slots Q (F0 m pc' lsC1 (st'.map (conc ad)))) : W p l e R s m args below meth c H locs cells slots Q (F0 m pc lsC (st.map (conc ad))) := by
  replace h : (match st with
    | .inr (.inl x) :: st' => goS (pc + 1) ls (.inl x.toInt32.toInt :: st') M
    | _ => none) = some _ := h
  unfold goS at h
  split at h
  · cases h
    exact lv_l2i F.1 F.2.1 hd (oi_ti _).symm (kk _ _ _ hL hP hS0)
  · cases h
theorem st_lcmp (F : Fr p s m args c D cy mi) {pc a lnn pc' : Nat} {x : Int} {ls ls' : Ls} {st st' : List Vv} {M M' : Mm} (hd : decode (cM mi) pc = .ok (.lcmp, 1)) (h : sem1 S mi (.lcmp) lnn a x pc ls st M = some (.inl (pc', ls', st', M'))) {lsC : Array Slot} (hL : LR ad (lM mi) ls lsC) (hP : va_P D vwCl (wsW cy ad M) H) (hS0 : va_S A H0 H locs)
    (kk : ∀ (H1 : Heap) (locs1 : List Loc) (lsC1 : Array Slot), LR ad (lM mi) ls' lsC1 → va_P D vwCl (wsW cy ad M') H1 → va_S A H0 H1 locs1 → W p l e R s m args below meth c H1 locs1 cells slots Q (F0 m pc' lsC1 (st'.map (conc ad)))) : W p l e R s m args below meth c H locs cells slots Q (F0 m pc lsC (st.map (conc ad))) := by
  replace h : (match st with
    | .inr (.inl y) :: .inr (.inl x) :: st' => goS (pc + 1) ls (.inl (lcm x y) :: st') M
    | _ => none) = some _ := h
  unfold goS at h
  split at h
  · next v u r =>
    cases h
    have k1 := kk _ _ _ hL hP hS0
    have ee : Int32.ofInt (lcm u v) = lg_cmp u v := oi_ti _
    have k2 : W p l e R s m args below meth c H locs cells slots Q (F0 m (pc + 1) lsC (Value.int (lg_cmp u v) :: r.map (conc ad))) := ee ▸ k1
    exact W.lcmp F.1 F.2.1 hd k2
  · cases h
theorem st_iinc (F : Fr p s m args c D cy mi) {k : Nat} {n : Int} {pc a lnn pc' : Nat} {x : Int} {ls ls' : Ls} {st st' : List Vv} {M M' : Mm} (hd : decode (cM mi) pc = .ok (.iinc k n, 3)) (h : sem1 S mi (.iinc k n) lnn a x pc ls st M = some (.inl (pc', ls', st', M'))) {lsC : Array Slot} (hL : LR ad (lM mi) ls lsC) (hP : va_P D vwCl (wsW cy ad M) H) (hS0 : va_S A H0 H locs)
    (kk : ∀ (H1 : Heap) (locs1 : List Loc) (lsC1 : Array Slot), LR ad (lM mi) ls' lsC1 → va_P D vwCl (wsW cy ad M') H1 → va_S A H0 H1 locs1 → W p l e R s m args below meth c H1 locs1 cells slots Q (F0 m pc' lsC1 (st'.map (conc ad)))) : W p l e R s m args below meth c H locs cells slots Q (F0 m pc lsC (st.map (conc ad))) := by
  replace h : (match getL ls k with
    | some (.inl v) => bif Nat.blt k ls.length then goS (pc + 3) (stI ls k (.inl (wrap (v + n)))) st M else none
    | _ => none) = some _ := h
  unfold goS at h
  split at h
  · next v g =>
    cases hc : Nat.blt k ls.length with
    | false => rw [hc] at h; cases h
    | true =>
      rw [hc] at h
      cases h
      have hi : k < lM mi := hL.1 ▸ blt_lt hc
      have hm : (k, conc ad (.inl v)) ∈ ascF ad 0 ls := by
        unfold getL at g
        split at g
        · next w hw => cases g; exact ascF_mem.mpr ⟨k, _, hw, by simp⟩
        · cases g
      obtain ⟨j, hj⟩ := List.getElem?_of_mem hm
      exact lv_iinc F.1 F.2.1 hd hL.2 hj (v := Int32.ofInt (wrap (v + n))) (by rw [oi_wrap, Int32.ofInt_add]) hi rfl (fun ls1 h1 => kk _ _ _ (LR.st1 hL.1 hi h1) hP hS0)
  · cases h
theorem st_dup (F : Fr p s m args c D cy mi) {pc a lnn pc' : Nat} {x : Int} {ls ls' : Ls} {st st' : List Vv} {M M' : Mm} (hd : decode (cM mi) pc = .ok (.dup, 1)) (h : sem1 S mi (.dup) lnn a x pc ls st M = some (.inl (pc', ls', st', M'))) {lsC : Array Slot} (hL : LR ad (lM mi) ls lsC) (hP : va_P D vwCl (wsW cy ad M) H) (hS0 : va_S A H0 H locs)
    (kk : ∀ (H1 : Heap) (locs1 : List Loc) (lsC1 : Array Slot), LR ad (lM mi) ls' lsC1 → va_P D vwCl (wsW cy ad M') H1 → va_S A H0 H1 locs1 → W p l e R s m args below meth c H1 locs1 cells slots Q (F0 m pc' lsC1 (st'.map (conc ad)))) : W p l e R s m args below meth c H locs cells slots Q (F0 m pc lsC (st.map (conc ad))) := by
  replace h : (match st with
    | .inl v :: st' => goS (pc + 1) ls (.inl v :: .inl v :: st') M
    | .inr (.inr v) :: st' => goS (pc + 1) ls (.inr (.inr v) :: .inr (.inr v) :: st') M
    | _ => none) = some _ := h
  unfold goS at h
  split at h
  · cases h
    exact lv_dup F.1 F.2.1 hd rfl (kk _ _ _ hL hP hS0)
  · next v r =>
    cases h
    exact lv_dup F.1 F.2.1 hd rfl (kk _ _ _ hL hP hS0)
  · cases h
theorem st_dup2 (F : Fr p s m args c D cy mi) {pc a lnn pc' : Nat} {x : Int} {ls ls' : Ls} {st st' : List Vv} {M M' : Mm} (hd : decode (cM mi) pc = .ok (.dup2, 1)) (h : sem1 S mi (.dup2) lnn a x pc ls st M = some (.inl (pc', ls', st', M'))) {lsC : Array Slot} (hL : LR ad (lM mi) ls lsC) (hP : va_P D vwCl (wsW cy ad M) H) (hS0 : va_S A H0 H locs)
    (kk : ∀ (H1 : Heap) (locs1 : List Loc) (lsC1 : Array Slot), LR ad (lM mi) ls' lsC1 → va_P D vwCl (wsW cy ad M') H1 → va_S A H0 H1 locs1 → W p l e R s m args below meth c H1 locs1 cells slots Q (F0 m pc' lsC1 (st'.map (conc ad)))) : W p l e R s m args below meth c H locs cells slots Q (F0 m pc lsC (st.map (conc ad))) := by
  replace h : (match st with
    | .inl v :: .inr (.inr w) :: st' => goS (pc + 1) ls (.inl v :: .inr (.inr w) :: .inl v :: .inr (.inr w) :: st') M
    | _ => none) = some _ := h
  unfold goS at h
  split at h
  · cases h
    exact lv_dup2_11 F.1 F.2.1 hd rfl rfl (kk _ _ _ hL hP hS0)
  · cases h
theorem st_goto (F : Fr p s m args c D cy mi) {off : Int} {pc a lnn pc' : Nat} {x : Int} {ls ls' : Ls} {st st' : List Vv} {M M' : Mm} (hd : decode (cM mi) pc = .ok (.goto off, 3)) (h : sem1 S mi (.goto off) lnn a x pc ls st M = some (.inl (pc', ls', st', M'))) {lsC : Array Slot} (hL : LR ad (lM mi) ls lsC) (hP : va_P D vwCl (wsW cy ad M) H) (hS0 : va_S A H0 H locs) (hok : okB (yM mi).cls pc (.goto off, lnn, a, x) = true)
    (kk : ∀ (H1 : Heap) (locs1 : List Loc) (lsC1 : Array Slot), LR ad (lM mi) ls' lsC1 → va_P D vwCl (wsW cy ad M') H1 → va_S A H0 H1 locs1 → W p l e R s m args below meth c H1 locs1 cells slots Q (F0 m pc' lsC1 (st'.map (conc ad)))) : W p l e R s m args below meth c H locs cells slots Q (F0 m pc lsC (st.map (conc ad))) := by
  cases h
  exact lv_goto F.1 F.2.1 hd (of_decide_eq_true hok) (kk _ _ _ hL hP hS0)
theorem st_if_eq (F : Fr p s m args c D cy mi) {off : Int} {pc a lnn pc' : Nat} {x : Int} {ls ls' : Ls} {st st' : List Vv} {M M' : Mm} (hd : decode (cM mi) pc = .ok (.ifCond .eq off, 3)) (h : sem1 S mi (.ifCond .eq off) lnn a x pc ls st M = some (.inl (pc', ls', st', M'))) {lsC : Array Slot} (hL : LR ad (lM mi) ls lsC) (hP : va_P D vwCl (wsW cy ad M) H) (hS0 : va_S A H0 H locs) (hst : ∀ v ∈ st, okV v) (hok : okB (yM mi).cls pc (.ifCond .eq off, lnn, a, x) = true)
    (kk : ∀ (H1 : Heap) (locs1 : List Loc) (lsC1 : Array Slot), LR ad (lM mi) ls' lsC1 → va_P D vwCl (wsW cy ad M') H1 → va_S A H0 H1 locs1 → W p l e R s m args below meth c H1 locs1 cells slots Q (F0 m pc' lsC1 (st'.map (conc ad)))) : W p l e R s m args below meth c H locs cells slots Q (F0 m pc lsC (st.map (conc ad))) := by
  replace h : (match st with
    | .inl v :: st' => goS (cmp0 .eq v a (pc + 3)) ls st' M
    | _ => none) = some _ := h
  unfold goS at h
  split at h
  · next v r =>
    cases h
    have k1 := kk _ _ _ hL hP hS0
    have hx : inR v := hst (.inl v) (by simp)
    refine lv_if_eq F.1 F.2.1 hd (of_decide_eq_true hok) (fun hc => ?_) (fun hc => ?_)
    · rw [show cmp0 .eq v a (pc + 3) = a from if_pos ((oi_eq hx in_0).mp hc)] at k1
      exact k1
    · rw [show cmp0 .eq v a (pc + 3) = pc + 3 from if_neg (fun q => hc ((oi_eq hx in_0).mpr q))] at k1
      exact k1
  · cases h
theorem st_icmp_eq (F : Fr p s m args c D cy mi) {off : Int} {pc a lnn pc' : Nat} {x : Int} {ls ls' : Ls} {st st' : List Vv} {M M' : Mm} (hd : decode (cM mi) pc = .ok (.if_icmp .eq off, 3)) (h : sem1 S mi (.if_icmp .eq off) lnn a x pc ls st M = some (.inl (pc', ls', st', M'))) {lsC : Array Slot} (hL : LR ad (lM mi) ls lsC) (hP : va_P D vwCl (wsW cy ad M) H) (hS0 : va_S A H0 H locs) (hst : ∀ v ∈ st, okV v) (hok : okB (yM mi).cls pc (.if_icmp .eq off, lnn, a, x) = true)
    (kk : ∀ (H1 : Heap) (locs1 : List Loc) (lsC1 : Array Slot), LR ad (lM mi) ls' lsC1 → va_P D vwCl (wsW cy ad M') H1 → va_S A H0 H1 locs1 → W p l e R s m args below meth c H1 locs1 cells slots Q (F0 m pc' lsC1 (st'.map (conc ad)))) : W p l e R s m args below meth c H locs cells slots Q (F0 m pc lsC (st.map (conc ad))) := by
  replace h : (match st with
    | .inl u :: .inl v :: st' => goS (cmp2 .eq v u a (pc + 3)) ls st' M
    | _ => none) = some _ := h
  unfold goS at h
  split at h
  · next u v r =>
    cases h
    have k1 := kk _ _ _ hL hP hS0
    have hx : inR v := hst (.inl v) (by simp)
    have hy : inR u := hst (.inl u) (by simp)
    refine lv_icmp_eq F.1 F.2.1 hd (of_decide_eq_true hok) (fun hc => ?_) (fun hc => ?_)
    · rw [show cmp2 .eq v u a (pc + 3) = a from if_pos ((oi_eq hx hy).mp hc)] at k1
      exact k1
    · rw [show cmp2 .eq v u a (pc + 3) = pc + 3 from if_neg (fun q => hc ((oi_eq hx hy).mpr q))] at k1
      exact k1
  · cases h
theorem st_if_ne (F : Fr p s m args c D cy mi) {off : Int} {pc a lnn pc' : Nat} {x : Int} {ls ls' : Ls} {st st' : List Vv} {M M' : Mm} (hd : decode (cM mi) pc = .ok (.ifCond .ne off, 3)) (h : sem1 S mi (.ifCond .ne off) lnn a x pc ls st M = some (.inl (pc', ls', st', M'))) {lsC : Array Slot} (hL : LR ad (lM mi) ls lsC) (hP : va_P D vwCl (wsW cy ad M) H) (hS0 : va_S A H0 H locs) (hst : ∀ v ∈ st, okV v) (hok : okB (yM mi).cls pc (.ifCond .ne off, lnn, a, x) = true)
    (kk : ∀ (H1 : Heap) (locs1 : List Loc) (lsC1 : Array Slot), LR ad (lM mi) ls' lsC1 → va_P D vwCl (wsW cy ad M') H1 → va_S A H0 H1 locs1 → W p l e R s m args below meth c H1 locs1 cells slots Q (F0 m pc' lsC1 (st'.map (conc ad)))) : W p l e R s m args below meth c H locs cells slots Q (F0 m pc lsC (st.map (conc ad))) := by
  replace h : (match st with
    | .inl v :: st' => goS (cmp0 .ne v a (pc + 3)) ls st' M
    | _ => none) = some _ := h
  unfold goS at h
  split at h
  · next v r =>
    cases h
    have k1 := kk _ _ _ hL hP hS0
    have hx : inR v := hst (.inl v) (by simp)
    refine lv_if_ne F.1 F.2.1 hd (of_decide_eq_true hok) (fun hc => ?_) (fun hc => ?_)
    · rw [show cmp0 .ne v a (pc + 3) = a from if_neg (fun q => hc ((oi_eq hx in_0).mpr q))] at k1
      exact k1
    · rw [show cmp0 .ne v a (pc + 3) = pc + 3 from if_pos ((oi_eq hx in_0).mp hc)] at k1
      exact k1
  · cases h
theorem st_icmp_ne (F : Fr p s m args c D cy mi) {off : Int} {pc a lnn pc' : Nat} {x : Int} {ls ls' : Ls} {st st' : List Vv} {M M' : Mm} (hd : decode (cM mi) pc = .ok (.if_icmp .ne off, 3)) (h : sem1 S mi (.if_icmp .ne off) lnn a x pc ls st M = some (.inl (pc', ls', st', M'))) {lsC : Array Slot} (hL : LR ad (lM mi) ls lsC) (hP : va_P D vwCl (wsW cy ad M) H) (hS0 : va_S A H0 H locs) (hst : ∀ v ∈ st, okV v) (hok : okB (yM mi).cls pc (.if_icmp .ne off, lnn, a, x) = true)
    (kk : ∀ (H1 : Heap) (locs1 : List Loc) (lsC1 : Array Slot), LR ad (lM mi) ls' lsC1 → va_P D vwCl (wsW cy ad M') H1 → va_S A H0 H1 locs1 → W p l e R s m args below meth c H1 locs1 cells slots Q (F0 m pc' lsC1 (st'.map (conc ad)))) : W p l e R s m args below meth c H locs cells slots Q (F0 m pc lsC (st.map (conc ad))) := by
  replace h : (match st with
    | .inl u :: .inl v :: st' => goS (cmp2 .ne v u a (pc + 3)) ls st' M
    | _ => none) = some _ := h
  unfold goS at h
  split at h
  · next u v r =>
    cases h
    have k1 := kk _ _ _ hL hP hS0
    have hx : inR v := hst (.inl v) (by simp)
    have hy : inR u := hst (.inl u) (by simp)
    refine lv_icmp_ne F.1 F.2.1 hd (of_decide_eq_true hok) (fun hc => ?_) (fun hc => ?_)
    · rw [show cmp2 .ne v u a (pc + 3) = a from if_neg (fun q => hc ((oi_eq hx hy).mpr q))] at k1
      exact k1
    · rw [show cmp2 .ne v u a (pc + 3) = pc + 3 from if_pos ((oi_eq hx hy).mp hc)] at k1
      exact k1
  · cases h
theorem st_if_lt (F : Fr p s m args c D cy mi) {off : Int} {pc a lnn pc' : Nat} {x : Int} {ls ls' : Ls} {st st' : List Vv} {M M' : Mm} (hd : decode (cM mi) pc = .ok (.ifCond .lt off, 3)) (h : sem1 S mi (.ifCond .lt off) lnn a x pc ls st M = some (.inl (pc', ls', st', M'))) {lsC : Array Slot} (hL : LR ad (lM mi) ls lsC) (hP : va_P D vwCl (wsW cy ad M) H) (hS0 : va_S A H0 H locs) (hst : ∀ v ∈ st, okV v) (hok : okB (yM mi).cls pc (.ifCond .lt off, lnn, a, x) = true)
    (kk : ∀ (H1 : Heap) (locs1 : List Loc) (lsC1 : Array Slot), LR ad (lM mi) ls' lsC1 → va_P D vwCl (wsW cy ad M') H1 → va_S A H0 H1 locs1 → W p l e R s m args below meth c H1 locs1 cells slots Q (F0 m pc' lsC1 (st'.map (conc ad)))) : W p l e R s m args below meth c H locs cells slots Q (F0 m pc lsC (st.map (conc ad))) := by
  replace h : (match st with
    | .inl v :: st' => goS (cmp0 .lt v a (pc + 3)) ls st' M
    | _ => none) = some _ := h
  unfold goS at h
  split at h
  · next v r =>
    cases h
    have k1 := kk _ _ _ hL hP hS0
    have hx : inR v := hst (.inl v) (by simp)
    refine lv_if_lt F.1 F.2.1 hd (of_decide_eq_true hok) (fun hc => ?_) (fun hc => ?_)
    · rw [show cmp0 .lt v a (pc + 3) = a from if_pos ((oi_lt hx in_0).mp hc)] at k1
      exact k1
    · rw [show cmp0 .lt v a (pc + 3) = pc + 3 from if_neg (fun q => hc ((oi_lt hx in_0).mpr q))] at k1
      exact k1
  · cases h
theorem st_icmp_lt (F : Fr p s m args c D cy mi) {off : Int} {pc a lnn pc' : Nat} {x : Int} {ls ls' : Ls} {st st' : List Vv} {M M' : Mm} (hd : decode (cM mi) pc = .ok (.if_icmp .lt off, 3)) (h : sem1 S mi (.if_icmp .lt off) lnn a x pc ls st M = some (.inl (pc', ls', st', M'))) {lsC : Array Slot} (hL : LR ad (lM mi) ls lsC) (hP : va_P D vwCl (wsW cy ad M) H) (hS0 : va_S A H0 H locs) (hst : ∀ v ∈ st, okV v) (hok : okB (yM mi).cls pc (.if_icmp .lt off, lnn, a, x) = true)
    (kk : ∀ (H1 : Heap) (locs1 : List Loc) (lsC1 : Array Slot), LR ad (lM mi) ls' lsC1 → va_P D vwCl (wsW cy ad M') H1 → va_S A H0 H1 locs1 → W p l e R s m args below meth c H1 locs1 cells slots Q (F0 m pc' lsC1 (st'.map (conc ad)))) : W p l e R s m args below meth c H locs cells slots Q (F0 m pc lsC (st.map (conc ad))) := by
  replace h : (match st with
    | .inl u :: .inl v :: st' => goS (cmp2 .lt v u a (pc + 3)) ls st' M
    | _ => none) = some _ := h
  unfold goS at h
  split at h
  · next u v r =>
    cases h
    have k1 := kk _ _ _ hL hP hS0
    have hx : inR v := hst (.inl v) (by simp)
    have hy : inR u := hst (.inl u) (by simp)
    refine lv_icmp_lt F.1 F.2.1 hd (of_decide_eq_true hok) (fun hc => ?_) (fun hc => ?_)
    · rw [show cmp2 .lt v u a (pc + 3) = a from if_pos ((oi_lt hx hy).mp hc)] at k1
      exact k1
    · rw [show cmp2 .lt v u a (pc + 3) = pc + 3 from if_neg (fun q => hc ((oi_lt hx hy).mpr q))] at k1
      exact k1
  · cases h
theorem st_if_ge (F : Fr p s m args c D cy mi) {off : Int} {pc a lnn pc' : Nat} {x : Int} {ls ls' : Ls} {st st' : List Vv} {M M' : Mm} (hd : decode (cM mi) pc = .ok (.ifCond .ge off, 3)) (h : sem1 S mi (.ifCond .ge off) lnn a x pc ls st M = some (.inl (pc', ls', st', M'))) {lsC : Array Slot} (hL : LR ad (lM mi) ls lsC) (hP : va_P D vwCl (wsW cy ad M) H) (hS0 : va_S A H0 H locs) (hst : ∀ v ∈ st, okV v) (hok : okB (yM mi).cls pc (.ifCond .ge off, lnn, a, x) = true)
    (kk : ∀ (H1 : Heap) (locs1 : List Loc) (lsC1 : Array Slot), LR ad (lM mi) ls' lsC1 → va_P D vwCl (wsW cy ad M') H1 → va_S A H0 H1 locs1 → W p l e R s m args below meth c H1 locs1 cells slots Q (F0 m pc' lsC1 (st'.map (conc ad)))) : W p l e R s m args below meth c H locs cells slots Q (F0 m pc lsC (st.map (conc ad))) := by
  replace h : (match st with
    | .inl v :: st' => goS (cmp0 .ge v a (pc + 3)) ls st' M
    | _ => none) = some _ := h
  unfold goS at h
  split at h
  · next v r =>
    cases h
    have k1 := kk _ _ _ hL hP hS0
    have hx : inR v := hst (.inl v) (by simp)
    refine lv_if_ge F.1 F.2.1 hd (of_decide_eq_true hok) (fun hc => ?_) (fun hc => ?_)
    · rw [show cmp0 .ge v a (pc + 3) = a from if_neg (Int.not_lt.mpr ((oi_le in_0 hx).mp hc))] at k1
      exact k1
    · rw [show cmp0 .ge v a (pc + 3) = pc + 3 from if_pos (Int.not_le.mp (fun q => hc ((oi_le in_0 hx).mpr q)))] at k1
      exact k1
  · cases h
theorem st_icmp_ge (F : Fr p s m args c D cy mi) {off : Int} {pc a lnn pc' : Nat} {x : Int} {ls ls' : Ls} {st st' : List Vv} {M M' : Mm} (hd : decode (cM mi) pc = .ok (.if_icmp .ge off, 3)) (h : sem1 S mi (.if_icmp .ge off) lnn a x pc ls st M = some (.inl (pc', ls', st', M'))) {lsC : Array Slot} (hL : LR ad (lM mi) ls lsC) (hP : va_P D vwCl (wsW cy ad M) H) (hS0 : va_S A H0 H locs) (hst : ∀ v ∈ st, okV v) (hok : okB (yM mi).cls pc (.if_icmp .ge off, lnn, a, x) = true)
    (kk : ∀ (H1 : Heap) (locs1 : List Loc) (lsC1 : Array Slot), LR ad (lM mi) ls' lsC1 → va_P D vwCl (wsW cy ad M') H1 → va_S A H0 H1 locs1 → W p l e R s m args below meth c H1 locs1 cells slots Q (F0 m pc' lsC1 (st'.map (conc ad)))) : W p l e R s m args below meth c H locs cells slots Q (F0 m pc lsC (st.map (conc ad))) := by
  replace h : (match st with
    | .inl u :: .inl v :: st' => goS (cmp2 .ge v u a (pc + 3)) ls st' M
    | _ => none) = some _ := h
  unfold goS at h
  split at h
  · next u v r =>
    cases h
    have k1 := kk _ _ _ hL hP hS0
    have hx : inR v := hst (.inl v) (by simp)
    have hy : inR u := hst (.inl u) (by simp)
    refine lv_icmp_ge F.1 F.2.1 hd (of_decide_eq_true hok) (fun hc => ?_) (fun hc => ?_)
    · rw [show cmp2 .ge v u a (pc + 3) = a from if_neg (Int.not_lt.mpr ((oi_le hy hx).mp hc))] at k1
      exact k1
    · rw [show cmp2 .ge v u a (pc + 3) = pc + 3 from if_pos (Int.not_le.mp (fun q => hc ((oi_le hy hx).mpr q)))] at k1
      exact k1
  · cases h
theorem st_if_gt (F : Fr p s m args c D cy mi) {off : Int} {pc a lnn pc' : Nat} {x : Int} {ls ls' : Ls} {st st' : List Vv} {M M' : Mm} (hd : decode (cM mi) pc = .ok (.ifCond .gt off, 3)) (h : sem1 S mi (.ifCond .gt off) lnn a x pc ls st M = some (.inl (pc', ls', st', M'))) {lsC : Array Slot} (hL : LR ad (lM mi) ls lsC) (hP : va_P D vwCl (wsW cy ad M) H) (hS0 : va_S A H0 H locs) (hst : ∀ v ∈ st, okV v) (hok : okB (yM mi).cls pc (.ifCond .gt off, lnn, a, x) = true)
    (kk : ∀ (H1 : Heap) (locs1 : List Loc) (lsC1 : Array Slot), LR ad (lM mi) ls' lsC1 → va_P D vwCl (wsW cy ad M') H1 → va_S A H0 H1 locs1 → W p l e R s m args below meth c H1 locs1 cells slots Q (F0 m pc' lsC1 (st'.map (conc ad)))) : W p l e R s m args below meth c H locs cells slots Q (F0 m pc lsC (st.map (conc ad))) := by
  replace h : (match st with
    | .inl v :: st' => goS (cmp0 .gt v a (pc + 3)) ls st' M
    | _ => none) = some _ := h
  unfold goS at h
  split at h
  · next v r =>
    cases h
    have k1 := kk _ _ _ hL hP hS0
    have hx : inR v := hst (.inl v) (by simp)
    refine lv_if_gt F.1 F.2.1 hd (of_decide_eq_true hok) (fun hc => ?_) (fun hc => ?_)
    · rw [show cmp0 .gt v a (pc + 3) = a from if_pos ((oi_lt in_0 hx).mp hc)] at k1
      exact k1
    · rw [show cmp0 .gt v a (pc + 3) = pc + 3 from if_neg (fun q => hc ((oi_lt in_0 hx).mpr q))] at k1
      exact k1
  · cases h
theorem st_icmp_gt (F : Fr p s m args c D cy mi) {off : Int} {pc a lnn pc' : Nat} {x : Int} {ls ls' : Ls} {st st' : List Vv} {M M' : Mm} (hd : decode (cM mi) pc = .ok (.if_icmp .gt off, 3)) (h : sem1 S mi (.if_icmp .gt off) lnn a x pc ls st M = some (.inl (pc', ls', st', M'))) {lsC : Array Slot} (hL : LR ad (lM mi) ls lsC) (hP : va_P D vwCl (wsW cy ad M) H) (hS0 : va_S A H0 H locs) (hst : ∀ v ∈ st, okV v) (hok : okB (yM mi).cls pc (.if_icmp .gt off, lnn, a, x) = true)
    (kk : ∀ (H1 : Heap) (locs1 : List Loc) (lsC1 : Array Slot), LR ad (lM mi) ls' lsC1 → va_P D vwCl (wsW cy ad M') H1 → va_S A H0 H1 locs1 → W p l e R s m args below meth c H1 locs1 cells slots Q (F0 m pc' lsC1 (st'.map (conc ad)))) : W p l e R s m args below meth c H locs cells slots Q (F0 m pc lsC (st.map (conc ad))) := by
  replace h : (match st with
    | .inl u :: .inl v :: st' => goS (cmp2 .gt v u a (pc + 3)) ls st' M
    | _ => none) = some _ := h
  unfold goS at h
  split at h
  · next u v r =>
    cases h
    have k1 := kk _ _ _ hL hP hS0
    have hx : inR v := hst (.inl v) (by simp)
    have hy : inR u := hst (.inl u) (by simp)
    refine lv_icmp_gt F.1 F.2.1 hd (of_decide_eq_true hok) (fun hc => ?_) (fun hc => ?_)
    · rw [show cmp2 .gt v u a (pc + 3) = a from if_pos ((oi_lt hy hx).mp hc)] at k1
      exact k1
    · rw [show cmp2 .gt v u a (pc + 3) = pc + 3 from if_neg (fun q => hc ((oi_lt hy hx).mpr q))] at k1
      exact k1
  · cases h
theorem st_if_le (F : Fr p s m args c D cy mi) {off : Int} {pc a lnn pc' : Nat} {x : Int} {ls ls' : Ls} {st st' : List Vv} {M M' : Mm} (hd : decode (cM mi) pc = .ok (.ifCond .le off, 3)) (h : sem1 S mi (.ifCond .le off) lnn a x pc ls st M = some (.inl (pc', ls', st', M'))) {lsC : Array Slot} (hL : LR ad (lM mi) ls lsC) (hP : va_P D vwCl (wsW cy ad M) H) (hS0 : va_S A H0 H locs) (hst : ∀ v ∈ st, okV v) (hok : okB (yM mi).cls pc (.ifCond .le off, lnn, a, x) = true)
    (kk : ∀ (H1 : Heap) (locs1 : List Loc) (lsC1 : Array Slot), LR ad (lM mi) ls' lsC1 → va_P D vwCl (wsW cy ad M') H1 → va_S A H0 H1 locs1 → W p l e R s m args below meth c H1 locs1 cells slots Q (F0 m pc' lsC1 (st'.map (conc ad)))) : W p l e R s m args below meth c H locs cells slots Q (F0 m pc lsC (st.map (conc ad))) := by
  replace h : (match st with
    | .inl v :: st' => goS (cmp0 .le v a (pc + 3)) ls st' M
    | _ => none) = some _ := h
  unfold goS at h
  split at h
  · next v r =>
    cases h
    have k1 := kk _ _ _ hL hP hS0
    have hx : inR v := hst (.inl v) (by simp)
    refine lv_if_le F.1 F.2.1 hd (of_decide_eq_true hok) (fun hc => ?_) (fun hc => ?_)
    · rw [show cmp0 .le v a (pc + 3) = a from if_neg (Int.not_lt.mpr ((oi_le hx in_0).mp hc))] at k1
      exact k1
    · rw [show cmp0 .le v a (pc + 3) = pc + 3 from if_pos (Int.not_le.mp (fun q => hc ((oi_le hx in_0).mpr q)))] at k1
      exact k1
  · cases h
theorem st_icmp_le (F : Fr p s m args c D cy mi) {off : Int} {pc a lnn pc' : Nat} {x : Int} {ls ls' : Ls} {st st' : List Vv} {M M' : Mm} (hd : decode (cM mi) pc = .ok (.if_icmp .le off, 3)) (h : sem1 S mi (.if_icmp .le off) lnn a x pc ls st M = some (.inl (pc', ls', st', M'))) {lsC : Array Slot} (hL : LR ad (lM mi) ls lsC) (hP : va_P D vwCl (wsW cy ad M) H) (hS0 : va_S A H0 H locs) (hst : ∀ v ∈ st, okV v) (hok : okB (yM mi).cls pc (.if_icmp .le off, lnn, a, x) = true)
    (kk : ∀ (H1 : Heap) (locs1 : List Loc) (lsC1 : Array Slot), LR ad (lM mi) ls' lsC1 → va_P D vwCl (wsW cy ad M') H1 → va_S A H0 H1 locs1 → W p l e R s m args below meth c H1 locs1 cells slots Q (F0 m pc' lsC1 (st'.map (conc ad)))) : W p l e R s m args below meth c H locs cells slots Q (F0 m pc lsC (st.map (conc ad))) := by
  replace h : (match st with
    | .inl u :: .inl v :: st' => goS (cmp2 .le v u a (pc + 3)) ls st' M
    | _ => none) = some _ := h
  unfold goS at h
  split at h
  · next u v r =>
    cases h
    have k1 := kk _ _ _ hL hP hS0
    have hx : inR v := hst (.inl v) (by simp)
    have hy : inR u := hst (.inl u) (by simp)
    refine lv_icmp_le F.1 F.2.1 hd (of_decide_eq_true hok) (fun hc => ?_) (fun hc => ?_)
    · rw [show cmp2 .le v u a (pc + 3) = a from if_neg (Int.not_lt.mpr ((oi_le hx hy).mp hc))] at k1
      exact k1
    · rw [show cmp2 .le v u a (pc + 3) = pc + 3 from if_pos (Int.not_le.mp (fun q => hc ((oi_le hx hy).mpr q)))] at k1
      exact k1
  · cases h
theorem st_ifnull (F : Fr p s m args c D cy mi) {off : Int} {pc a lnn pc' : Nat} {x : Int} {ls ls' : Ls} {st st' : List Vv} {M M' : Mm} (hd : decode (cM mi) pc = .ok (.ifnull off, 3)) (h : sem1 S mi (.ifnull off) lnn a x pc ls st M = some (.inl (pc', ls', st', M'))) {lsC : Array Slot} (hL : LR ad (lM mi) ls lsC) (hP : va_P D vwCl (wsW cy ad M) H) (hS0 : va_S A H0 H locs)
    (kk : ∀ (H1 : Heap) (locs1 : List Loc) (lsC1 : Array Slot), LR ad (lM mi) ls' lsC1 → va_P D vwCl (wsW cy ad M') H1 → va_S A H0 H1 locs1 → W p l e R s m args below meth c H1 locs1 cells slots Q (F0 m pc' lsC1 (st'.map (conc ad)))) : W p l e R s m args below meth c H locs cells slots Q (F0 m pc lsC (st.map (conc ad))) := by
  replace h : (match st with
    | .inr (.inr _) :: st' => goS (pc + 3) ls st' M
    | _ => none) = some _ := h
  unfold goS at h
  split at h
  · cases h
    exact lv_ifnull F.1 F.2.1 hd (kk _ _ _ hL hP hS0)
  · cases h
theorem st_table (F : Fr p s m args c D cy mi) {dflt lo hi : Int} {offs : Array Int} {pc a lnn pc' : Nat} {x : Int} {ls ls' : Ls} {st st' : List Vv} {M M' : Mm} (hd : decode (cM mi) pc = .ok (.tableswitch dflt lo hi offs, lnn)) (h : sem1 S mi (.tableswitch dflt lo hi offs) lnn a x pc ls st M = some (.inl (pc', ls', st', M'))) {lsC : Array Slot} (hL : LR ad (lM mi) ls lsC) (hP : va_P D vwCl (wsW cy ad M) H) (hS0 : va_S A H0 H locs) (hst : ∀ v ∈ st, okV v) (hok : okB (yM mi).cls pc (.tableswitch dflt lo hi offs, lnn, a, x) = true)
    (kk : ∀ (H1 : Heap) (locs1 : List Loc) (lsC1 : Array Slot), LR ad (lM mi) ls' lsC1 → va_P D vwCl (wsW cy ad M') H1 → va_S A H0 H1 locs1 → W p l e R s m args below meth c H1 locs1 cells slots Q (F0 m pc' lsC1 (st'.map (conc ad)))) : W p l e R s m args below meth c H locs cells slots Q (F0 m pc lsC (st.map (conc ad))) := by
  replace h : (match st with
    | .inl v :: st' => goS (tswT pc dflt lo hi offs v) ls st' M
    | _ => none) = some _ := h
  unfold goS at h
  split at h
  · next v r =>
    cases h
    have k1 := kk _ _ _ hL hP hS0
    have hx : inR v := hst (.inl v) (by simp)
    have hok : (decide (0 ≤ (pc : Int) + dflt) && offs.toList.all (fun o => decide (0 ≤ (pc : Int) + o)) && decide ((offs.toList.length : Int) = hi - lo + 1)) = true := hok
    rw [Bool.and_eq_true, Bool.and_eq_true, decide_eq_true_eq, decide_eq_true_eq] at hok
    obtain ⟨⟨h1, h2⟩, h3⟩ := hok
    by_cases c1 : v < lo
    · rw [show tswT pc dflt lo hi offs v = ((pc : Int) + dflt).toNat from if_pos c1] at k1
      exact lv_tableOut F.1 F.2.1 hd (Or.inl (by rw [ti_oi hx]; exact c1)) (by omega) k1
    · by_cases c2 : hi < v
      · rw [show tswT pc dflt lo hi offs v = ((pc : Int) + dflt).toNat from (if_neg c1).trans (if_pos c2)] at k1
        exact lv_tableOut F.1 F.2.1 hd (Or.inr (by rw [ti_oi hx]; exact c2)) (by omega) k1
      · rw [show tswT pc dflt lo hi offs v = ((pc : Int) + offs.toList.getD (v - lo).toNat 0).toNat from (if_neg c1).trans (if_neg c2)] at k1
        have hlt : (v - lo).toNat < offs.toList.length := by omega
        have hg : offs.toList[(v - lo).toNat]? = some (offs.toList.getD (v - lo).toNat 0) := by rw [List.getD_eq_getElem?_getD, List.getElem?_eq_getElem hlt]; rfl
        have h0 := List.all_eq_true.mp h2 _ (List.mem_of_getElem? hg)
        rw [decide_eq_true_eq] at h0
        refine lv_tableIn F.1 F.2.1 hd (by rw [ti_oi hx]; exact c1) (by rw [ti_oi hx]; exact c2) (off := offs.toList.getD (v - lo).toNat 0) (by rw [ti_oi hx, ← Array.getElem?_toList]; exact hg) (by omega) k1
  · cases h
theorem lko {pc : Nat} {dflt v : Int} : ∀ {ps : List (Int × Int)}, 0 ≤ (pc : Int) + dflt → (ps.all fun o => decide (0 ≤ (pc : Int) + o.2)) = true → 0 ≤ (pc : Int) + Op.lookupswitch.offset ps dflt v
  | [], h1, _ => h1
  | (a, o) :: r, h1, h2 => by
    rw [List.all_cons, Bool.and_eq_true, decide_eq_true_eq] at h2
    rw [Op.lookupswitch.offset_cons]
    split
    · exact h2.1
    · exact lko h1 h2.2
theorem st_lookup (F : Fr p s m args c D cy mi) {dflt : Int} {ps : Array (Int × Int)} {pc a lnn pc' : Nat} {x : Int} {ls ls' : Ls} {st st' : List Vv} {M M' : Mm} (hd : decode (cM mi) pc = .ok (.lookupswitch dflt ps, lnn)) (h : sem1 S mi (.lookupswitch dflt ps) lnn a x pc ls st M = some (.inl (pc', ls', st', M'))) {lsC : Array Slot} (hL : LR ad (lM mi) ls lsC) (hP : va_P D vwCl (wsW cy ad M) H) (hS0 : va_S A H0 H locs) (hst : ∀ v ∈ st, okV v) (hok : okB (yM mi).cls pc (.lookupswitch dflt ps, lnn, a, x) = true)
    (kk : ∀ (H1 : Heap) (locs1 : List Loc) (lsC1 : Array Slot), LR ad (lM mi) ls' lsC1 → va_P D vwCl (wsW cy ad M') H1 → va_S A H0 H1 locs1 → W p l e R s m args below meth c H1 locs1 cells slots Q (F0 m pc' lsC1 (st'.map (conc ad)))) : W p l e R s m args below meth c H locs cells slots Q (F0 m pc lsC (st.map (conc ad))) := by
  replace h : (match st with
    | .inl v :: st' => bif (ps.toList.zip (ps.toList.drop 1)).all (fun (a, next) => a.1 < next.1) then goS ((pc : Int) + Op.lookupswitch.offset ps.toList dflt v).toNat ls st' M else none
    | _ => none) = some _ := h
  unfold goS at h
  split at h
  · next v r =>
    cases hc : (ps.toList.zip (ps.toList.drop 1)).all (fun (a, next) => a.1 < next.1) with
    | false => rw [hc] at h; cases h
    | true =>
      rw [hc] at h
      cases h
      have k1 := kk _ _ _ hL hP hS0
      have hx : inR v := hst (.inl v) (by simp)
      have hok : (decide (0 ≤ (pc : Int) + dflt) && ps.toList.all (fun o => decide (0 ≤ (pc : Int) + o.2))) = true := hok
      rw [Bool.and_eq_true, decide_eq_true_eq] at hok
      have h0 := lko (v := v) hok.1 hok.2
      exact lv_lookup F.1 F.2.1 hd hc (by rw [ti_oi hx]) (by omega) k1
  · cases h
end ST

/-! the methods that catch; the law's cases and its loop -/
/-- L_rectangle -/
def W_1200 (x1 : Int) (x2 : Int) (x3 : Int) (x4 : Int) (x5 : Int) (M : Mm) (Q : Int → Mm → Prop) : Prop := Ew 4 1200 [.inr (.inr (9, 0)), .inl x1, .inl x2, .inl x3, .inl x4, .inl x5, .inr (.inr (50, 0))] M (rI Q)
theorem w_1200 {x1 : Int} {x2 : Int} {x3 : Int} {x4 : Int} {x5 : Int} {M : Mm} {Q : Int → Mm → Prop} (h : X_901 x1 x2 x3 x4 x5 M (fun v M1 => Q 0 (setJ M1 50 0 0 ((Int32.ofInt v).toInt64))) (fun X M1 => (X = 1 ∧ Q 1 M1) ∨ (X = 3 ∧ Q 2 M1))) : W_1200 x1 x2 x3 x4 x5 M Q := by
  show W1 4 1200 0 [some (.inr (.inr (9, 0))), some (.inl x1), some (.inl x2), some (.inl x3), some (.inl x4), some (.inl x5), some (.inr (.inr (50, 0))), none] [] M (rI Q)
  refine W1.path (k := 8) [] (C := []) (pc' := 11) (ls' := [some (.inr (.inr (9, 0))), some (.inl x1), some (.inl x2), some (.inl x3), some (.inl x4), some (.inl x5), some (.inr (.inr (50, 0))), none]) (st' := [.inl x5, .inl x4, .inl x3, .inl x2, .inl x1, .inr (.inr (9, 0)), .inl 0, .inr (.inr (50, 0))]) (M' := M) rfl trivial ?_
  refine W1.call h rfl rfl (by decide) ?_ ?_
  · rintro _ M1 ⟨r, rfl, h⟩
    show Wp 4 1200 14 [some (.inr (.inr (9, 0))), some (.inl x1), some (.inl x2), some (.inl x3), some (.inl x4), some (.inl x5), some (.inr (.inr (50, 0))), none] [.inl r, .inl 0, .inr (.inr (50, 0))] M1 (rI Q)
    refine Wp.path (k := 4) [] (C := [(0 : Int) ≤ 0 ∧ (0 : Int) < (1 : Nat)]) (pc' := 28) (ls' := [some (.inr (.inr (9, 0))), some (.inl x1), some (.inl x2), some (.inl x3), some (.inl x4), some (.inl x5), some (.inr (.inr (50, 0))), none]) (st' := [.inl 0]) (M' := setJ M1 50 0 0 ((Int32.ofInt r).toInt64)) rfl ⟨by decide, by decide⟩ ?_
    exact Wp.ret rfl ⟨_, rfl, h⟩
  · rintro X M1 (⟨rfl, h⟩ | ⟨rfl, h⟩)
    · exact ⟨21, 7, rfl, Wp.path (k := 1) [] (C := []) (pc' := 22) (ls' := [some (.inr (.inr (9, 0))), some (.inl x1), some (.inl x2), some (.inl x3), some (.inl x4), some (.inl x5), some (.inr (.inr (50, 0))), none]) (st' := [.inl 1]) (M' := M1) rfl trivial (Wp.ret rfl ⟨_, rfl, h⟩)⟩
    · exact ⟨25, 7, rfl, Wp.path (k := 1) [] (C := []) (pc' := 26) (ls' := [some (.inr (.inr (9, 0))), some (.inl x1), some (.inl x2), some (.inl x3), some (.inl x4), some (.inl x5), some (.inr (.inr (50, 0))), none]) (st' := [.inl 2]) (M' := M1) rfl trivial (Wp.ret rfl ⟨_, rfl, h⟩)⟩
/-- L_append -/
def W_1201 (x1 : Int) (M : Mm) (Q : Int → Mm → Prop) : Prop := Ew 2 1201 [.inr (.inr (9, 0)), .inl x1, .inr (.inr (50, 0))] M (rI Q)
theorem w_1201 {x1 : Int} {M : Mm} {Q : Int → Mm → Prop} (h : X_903 x1 M (fun v M1 => Q 0 (setJ M1 50 0 0 ((Int32.ofInt v).toInt64))) (fun X M1 => (X = 1 ∧ Q 1 M1) ∨ (X = 2 ∧ Q 2 M1))) : W_1201 x1 M Q := by
  show W1 2 1201 0 [some (.inr (.inr (9, 0))), some (.inl x1), some (.inr (.inr (50, 0))), none] [] M (rI Q)
  refine W1.path (k := 4) [] (C := []) (pc' := 4) (ls' := [some (.inr (.inr (9, 0))), some (.inl x1), some (.inr (.inr (50, 0))), none]) (st' := [.inl x1, .inr (.inr (9, 0)), .inl 0, .inr (.inr (50, 0))]) (M' := M) rfl trivial ?_
  refine W1.call h rfl rfl (by decide) ?_ ?_
  · rintro _ M1 ⟨r, rfl, h⟩
    show Wp 2 1201 7 [some (.inr (.inr (9, 0))), some (.inl x1), some (.inr (.inr (50, 0))), none] [.inl r, .inl 0, .inr (.inr (50, 0))] M1 (rI Q)
    refine Wp.path (k := 4) [] (C := [(0 : Int) ≤ 0 ∧ (0 : Int) < (1 : Nat)]) (pc' := 19) (ls' := [some (.inr (.inr (9, 0))), some (.inl x1), some (.inr (.inr (50, 0))), none]) (st' := [.inl 0]) (M' := setJ M1 50 0 0 ((Int32.ofInt r).toInt64)) rfl ⟨by decide, by decide⟩ ?_
    exact Wp.ret rfl ⟨_, rfl, h⟩
  · rintro X M1 (⟨rfl, h⟩ | ⟨rfl, h⟩)
    · exact ⟨13, 3, rfl, Wp.path (k := 1) [] (C := []) (pc' := 14) (ls' := [some (.inr (.inr (9, 0))), some (.inl x1), some (.inr (.inr (50, 0))), none]) (st' := [.inl 1]) (M' := M1) rfl trivial (Wp.ret rfl ⟨_, rfl, h⟩)⟩
    · exact ⟨16, 3, rfl, Wp.path (k := 1) [] (C := []) (pc' := 17) (ls' := [some (.inr (.inr (9, 0))), some (.inl x1), some (.inr (.inr (50, 0))), none]) (st' := [.inl 2]) (M' := M1) rfl trivial (Wp.ret rfl ⟨_, rfl, h⟩)⟩
/-- L_execute -/
def W_1202 (M : Mm) (Q : Int → Mm → Prop) : Prop := Ew 7 1202 [.inr (.inr (9, 0)), .inr (.inr (50, 0))] M (rI Q)
theorem w_1202 {M : Mm} {Q : Int → Mm → Prop} (h : X_904 M (fun v M1 => Q 0 (setJ M1 50 0 0 ((Int32.ofInt v).toInt64))) (fun X M1 => (X = 1 ∧ Q 1 M1))) : W_1202 M Q := by
  show W1 7 1202 0 [some (.inr (.inr (9, 0))), some (.inr (.inr (50, 0))), none] [] M (rI Q)
  refine W1.path (k := 3) [] (C := []) (pc' := 3) (ls' := [some (.inr (.inr (9, 0))), some (.inr (.inr (50, 0))), none]) (st' := [.inr (.inr (9, 0)), .inl 0, .inr (.inr (50, 0))]) (M' := M) rfl trivial ?_
  refine W1.call h rfl rfl (by decide) ?_ ?_
  · rintro _ M1 ⟨r, rfl, h⟩
    show Wp 7 1202 6 [some (.inr (.inr (9, 0))), some (.inr (.inr (50, 0))), none] [.inl r, .inl 0, .inr (.inr (50, 0))] M1 (rI Q)
    refine Wp.path (k := 4) [] (C := [(0 : Int) ≤ 0 ∧ (0 : Int) < (1 : Nat)]) (pc' := 15) (ls' := [some (.inr (.inr (9, 0))), some (.inr (.inr (50, 0))), none]) (st' := [.inl 0]) (M' := setJ M1 50 0 0 ((Int32.ofInt r).toInt64)) rfl ⟨by decide, by decide⟩ ?_
    exact Wp.ret rfl ⟨_, rfl, h⟩
  · rintro X M1 ⟨rfl, h⟩
    exact ⟨12, 2, rfl, Wp.path (k := 1) [] (C := []) (pc' := 13) (ls' := [some (.inr (.inr (9, 0))), some (.inr (.inr (50, 0))), none]) (st' := [.inl 1]) (M' := M1) rfl trivial (Wp.ret rfl ⟨_, rfl, h⟩)⟩
/-- L_undo -/
def W_1203 (M : Mm) (Q : Int → Mm → Prop) : Prop := Ew 4 1203 [.inr (.inr (9, 0)), .inr (.inr (50, 0))] M (rI Q)
theorem w_1203 {M : Mm} {Q : Int → Mm → Prop} (h : X_906 M (fun v M1 => Q 0 (setJ M1 50 0 0 ((Int32.ofInt v).toInt64))) (fun X M1 => (X = 2 ∧ Q 1 M1))) : W_1203 M Q := by
  show W1 4 1203 0 [some (.inr (.inr (9, 0))), some (.inr (.inr (50, 0))), none] [] M (rI Q)
  refine W1.path (k := 3) [] (C := []) (pc' := 3) (ls' := [some (.inr (.inr (9, 0))), some (.inr (.inr (50, 0))), none]) (st' := [.inr (.inr (9, 0)), .inl 0, .inr (.inr (50, 0))]) (M' := M) rfl trivial ?_
  refine W1.call h rfl rfl (by decide) ?_ ?_
  · rintro _ M1 ⟨r, rfl, h⟩
    show Wp 4 1203 6 [some (.inr (.inr (9, 0))), some (.inr (.inr (50, 0))), none] [.inl r, .inl 0, .inr (.inr (50, 0))] M1 (rI Q)
    refine Wp.path (k := 4) [] (C := [(0 : Int) ≤ 0 ∧ (0 : Int) < (1 : Nat)]) (pc' := 15) (ls' := [some (.inr (.inr (9, 0))), some (.inr (.inr (50, 0))), none]) (st' := [.inl 0]) (M' := setJ M1 50 0 0 ((Int32.ofInt r).toInt64)) rfl ⟨by decide, by decide⟩ ?_
    exact Wp.ret rfl ⟨_, rfl, h⟩
  · rintro X M1 ⟨rfl, h⟩
    exact ⟨12, 2, rfl, Wp.path (k := 1) [] (C := []) (pc' := 13) (ls' := [some (.inr (.inr (9, 0))), some (.inr (.inr (50, 0))), none]) (st' := [.inl 1]) (M' := M1) rfl trivial (Wp.ret rfl ⟨_, rfl, h⟩)⟩
/-- L_redo -/
def W_1204 (M : Mm) (Q : Int → Mm → Prop) : Prop := Ew 4 1204 [.inr (.inr (9, 0)), .inr (.inr (50, 0))] M (rI Q)
theorem w_1204 {M : Mm} {Q : Int → Mm → Prop} (h : X_907 M (fun v M1 => Q 0 (setJ M1 50 0 0 ((Int32.ofInt v).toInt64))) (fun X M1 => (X = 2 ∧ Q 1 M1))) : W_1204 M Q := by
  show W1 4 1204 0 [some (.inr (.inr (9, 0))), some (.inr (.inr (50, 0))), none] [] M (rI Q)
  refine W1.path (k := 3) [] (C := []) (pc' := 3) (ls' := [some (.inr (.inr (9, 0))), some (.inr (.inr (50, 0))), none]) (st' := [.inr (.inr (9, 0)), .inl 0, .inr (.inr (50, 0))]) (M' := M) rfl trivial ?_
  refine W1.call h rfl rfl (by decide) ?_ ?_
  · rintro _ M1 ⟨r, rfl, h⟩
    show Wp 4 1204 6 [some (.inr (.inr (9, 0))), some (.inr (.inr (50, 0))), none] [.inl r, .inl 0, .inr (.inr (50, 0))] M1 (rI Q)
    refine Wp.path (k := 4) [] (C := [(0 : Int) ≤ 0 ∧ (0 : Int) < (1 : Nat)]) (pc' := 15) (ls' := [some (.inr (.inr (9, 0))), some (.inr (.inr (50, 0))), none]) (st' := [.inl 0]) (M' := setJ M1 50 0 0 ((Int32.ofInt r).toInt64)) rfl ⟨by decide, by decide⟩ ?_
    exact Wp.ret rfl ⟨_, rfl, h⟩
  · rintro X M1 ⟨rfl, h⟩
    exact ⟨12, 2, rfl, Wp.path (k := 1) [] (C := []) (pc' := 13) (ls' := [some (.inr (.inr (9, 0))), some (.inr (.inr (50, 0))), none]) (st' := [.inl 1]) (M' := M1) rfl trivial (Wp.ret rfl ⟨_, rfl, h⟩)⟩
/-- L_restore -/
def W_1205 (M : Mm) (Q : Int → Mm → Prop) : Prop := Ew 4 1205 [.inr (.inr (9, 0)), .inr (.inr (50, 0))] M (rI Q)
theorem w_1205 {M : Mm} {Q : Int → Mm → Prop} (h : X_909 M (fun v M1 => Q 0 (setJ M1 50 0 0 ((Int32.ofInt v).toInt64))) (fun X M1 => (X = 2 ∧ Q 1 M1))) : W_1205 M Q := by
  show W1 4 1205 0 [some (.inr (.inr (9, 0))), some (.inr (.inr (50, 0))), none] [] M (rI Q)
  refine W1.path (k := 3) [] (C := []) (pc' := 3) (ls' := [some (.inr (.inr (9, 0))), some (.inr (.inr (50, 0))), none]) (st' := [.inr (.inr (9, 0)), .inl 0, .inr (.inr (50, 0))]) (M' := M) rfl trivial ?_
  refine W1.call h rfl rfl (by decide) ?_ ?_
  · rintro _ M1 ⟨r, rfl, h⟩
    show Wp 4 1205 6 [some (.inr (.inr (9, 0))), some (.inr (.inr (50, 0))), none] [.inl r, .inl 0, .inr (.inr (50, 0))] M1 (rI Q)
    refine Wp.path (k := 4) [] (C := [(0 : Int) ≤ 0 ∧ (0 : Int) < (1 : Nat)]) (pc' := 15) (ls' := [some (.inr (.inr (9, 0))), some (.inr (.inr (50, 0))), none]) (st' := [.inl 0]) (M' := setJ M1 50 0 0 ((Int32.ofInt r).toInt64)) rfl ⟨by decide, by decide⟩ ?_
    exact Wp.ret rfl ⟨_, rfl, h⟩
  · rintro X M1 ⟨rfl, h⟩
    exact ⟨12, 2, rfl, Wp.path (k := 1) [] (C := []) (pc' := 13) (ls' := [some (.inr (.inr (9, 0))), some (.inr (.inr (50, 0))), none]) (st' := [.inl 1]) (M' := M1) rfl trivial (Wp.ret rfl ⟨_, rfl, h⟩)⟩
/-- L_contains -/
def W_1206 (x1 : Int) (x2 : Int) (M : Mm) (Q : Int → Mm → Prop) : Prop := Ew 2 1206 [.inr (.inr (9, 0)), .inl x1, .inl x2, .inr (.inr (50, 0))] M (rI Q)
theorem w_1206 {x1 : Int} {x2 : Int} {M : Mm} {Q : Int → Mm → Prop} (h : X_910 x1 x2 M (fun v M1 => Q 0 (setJ M1 50 0 0 ((if v = 0 then Int64.ofNat 0 else Int64.ofNat 1)))) (fun X M1 => (X = 3 ∧ Q 1 M1))) : W_1206 x1 x2 M Q := by
  show W1 2 1206 0 [some (.inr (.inr (9, 0))), some (.inl x1), some (.inl x2), some (.inr (.inr (50, 0))), none] [] M (rI Q)
  refine W1.path (k := 5) [] (C := []) (pc' := 5) (ls' := [some (.inr (.inr (9, 0))), some (.inl x1), some (.inl x2), some (.inr (.inr (50, 0))), none]) (st' := [.inl x2, .inl x1, .inr (.inr (9, 0)), .inl 0, .inr (.inr (50, 0))]) (M' := M) rfl trivial ?_
  refine W1.call h rfl rfl (by decide) ?_ ?_
  · rintro _ M1 ⟨r, rfl, h⟩
    show Wp 2 1206 8 [some (.inr (.inr (9, 0))), some (.inl x1), some (.inl x2), some (.inr (.inr (50, 0))), none] [.inl r, .inl 0, .inr (.inr (50, 0))] M1 (rI Q)
    rcases Decidable.em (r = 0) with c | c
    · refine Wp.path (k := 5) [1] (C := [r = 0, (0 : Int) ≤ 0 ∧ (0 : Int) < (1 : Nat)]) (pc' := 25) (ls' := [some (.inr (.inr (9, 0))), some (.inl x1), some (.inl x2), some (.inr (.inr (50, 0))), none]) (st' := [.inl 0]) (M' := setJ M1 50 0 0 (Int64.ofNat 0)) rfl ⟨c, by decide, by decide⟩ ?_
      rw [if_pos c] at h
      exact Wp.ret rfl ⟨_, rfl, h⟩
    · refine Wp.path (k := 6) [0] (C := [r ≠ 0, (0 : Int) ≤ 0 ∧ (0 : Int) < (1 : Nat)]) (pc' := 25) (ls' := [some (.inr (.inr (9, 0))), some (.inl x1), some (.inl x2), some (.inr (.inr (50, 0))), none]) (st' := [.inl 0]) (M' := setJ M1 50 0 0 (Int64.ofNat 1)) rfl ⟨c, by decide, by decide⟩ ?_
      rw [if_neg c] at h
      exact Wp.ret rfl ⟨_, rfl, h⟩
  · rintro X M1 ⟨rfl, h⟩
    exact ⟨22, 4, rfl, Wp.path (k := 1) [] (C := []) (pc' := 23) (ls' := [some (.inr (.inr (9, 0))), some (.inl x1), some (.inl x2), some (.inr (.inr (50, 0))), none]) (st' := [.inl 1]) (M' := M1) rfl trivial (Wp.ret rfl ⟨_, rfl, h⟩)⟩
/-- L_edge -/
def W_1207 (x1 : Int) (x2 : Int) (M : Mm) (Q : Int → Mm → Prop) : Prop := Ew 7 1207 [.inr (.inr (9, 0)), .inl x1, .inl x2, .inr (.inr (50, 0))] M (rI Q)
theorem w_1207 {x1 : Int} {x2 : Int} {M : Mm} {Q : Int → Mm → Prop} (h : X_912 x1 x2 M (fun v M1 => Q 0 (setJ M1 50 0 0 ((Int32.ofInt v).toInt64))) (fun X M1 => (X = 3 ∧ Q 1 M1) ∨ (X = 1 ∧ Q 2 M1))) : W_1207 x1 x2 M Q := by
  show W1 7 1207 0 [some (.inr (.inr (9, 0))), some (.inl x1), some (.inl x2), some (.inr (.inr (50, 0))), none] [] M (rI Q)
  refine W1.path (k := 5) [] (C := []) (pc' := 5) (ls' := [some (.inr (.inr (9, 0))), some (.inl x1), some (.inl x2), some (.inr (.inr (50, 0))), none]) (st' := [.inl x2, .inl x1, .inr (.inr (9, 0)), .inl 0, .inr (.inr (50, 0))]) (M' := M) rfl trivial ?_
  refine W1.call h rfl rfl (by decide) ?_ ?_
  · rintro _ M1 ⟨r, rfl, h⟩
    show Wp 7 1207 8 [some (.inr (.inr (9, 0))), some (.inl x1), some (.inl x2), some (.inr (.inr (50, 0))), none] [.inl r, .inl 0, .inr (.inr (50, 0))] M1 (rI Q)
    refine Wp.path (k := 4) [] (C := [(0 : Int) ≤ 0 ∧ (0 : Int) < (1 : Nat)]) (pc' := 22) (ls' := [some (.inr (.inr (9, 0))), some (.inl x1), some (.inl x2), some (.inr (.inr (50, 0))), none]) (st' := [.inl 0]) (M' := setJ M1 50 0 0 ((Int32.ofInt r).toInt64)) rfl ⟨by decide, by decide⟩ ?_
    exact Wp.ret rfl ⟨_, rfl, h⟩
  · rintro X M1 (⟨rfl, h⟩ | ⟨rfl, h⟩)
    · exact ⟨15, 4, rfl, Wp.path (k := 1) [] (C := []) (pc' := 16) (ls' := [some (.inr (.inr (9, 0))), some (.inl x1), some (.inl x2), some (.inr (.inr (50, 0))), none]) (st' := [.inl 1]) (M' := M1) rfl trivial (Wp.ret rfl ⟨_, rfl, h⟩)⟩
    · exact ⟨19, 4, rfl, Wp.path (k := 1) [] (C := []) (pc' := 20) (ls' := [some (.inr (.inr (9, 0))), some (.inl x1), some (.inl x2), some (.inr (.inr (50, 0))), none]) (st' := [.inl 2]) (M' := M1) rfl trivial (Wp.ret rfl ⟨_, rfl, h⟩)⟩
/-- L_group -/
def W_1208 (x1 : Int) (x2 : Int) (M : Mm) (Q : Int → Mm → Prop) : Prop := Ew 7 1208 [.inr (.inr (9, 0)), .inl x1, .inl x2, .inr (.inr (50, 0))] M (rI Q)
theorem w_1208 {x1 : Int} {x2 : Int} {M : Mm} {Q : Int → Mm → Prop} (h : X_915 x1 x2 M (fun v M1 => Q 0 (setJ M1 50 0 0 ((Int32.ofInt v).toInt64))) (fun X M1 => (X = 3 ∧ Q 1 M1) ∨ (X = 1 ∧ Q 2 M1))) : W_1208 x1 x2 M Q := by
  show W1 7 1208 0 [some (.inr (.inr (9, 0))), some (.inl x1), some (.inl x2), some (.inr (.inr (50, 0))), none] [] M (rI Q)
  refine W1.path (k := 5) [] (C := []) (pc' := 5) (ls' := [some (.inr (.inr (9, 0))), some (.inl x1), some (.inl x2), some (.inr (.inr (50, 0))), none]) (st' := [.inl x2, .inl x1, .inr (.inr (9, 0)), .inl 0, .inr (.inr (50, 0))]) (M' := M) rfl trivial ?_
  refine W1.call h rfl rfl (by decide) ?_ ?_
  · rintro _ M1 ⟨r, rfl, h⟩
    show Wp 7 1208 8 [some (.inr (.inr (9, 0))), some (.inl x1), some (.inl x2), some (.inr (.inr (50, 0))), none] [.inl r, .inl 0, .inr (.inr (50, 0))] M1 (rI Q)
    refine Wp.path (k := 4) [] (C := [(0 : Int) ≤ 0 ∧ (0 : Int) < (1 : Nat)]) (pc' := 22) (ls' := [some (.inr (.inr (9, 0))), some (.inl x1), some (.inl x2), some (.inr (.inr (50, 0))), none]) (st' := [.inl 0]) (M' := setJ M1 50 0 0 ((Int32.ofInt r).toInt64)) rfl ⟨by decide, by decide⟩ ?_
    exact Wp.ret rfl ⟨_, rfl, h⟩
  · rintro X M1 (⟨rfl, h⟩ | ⟨rfl, h⟩)
    · exact ⟨15, 4, rfl, Wp.path (k := 1) [] (C := []) (pc' := 16) (ls' := [some (.inr (.inr (9, 0))), some (.inl x1), some (.inl x2), some (.inr (.inr (50, 0))), none]) (st' := [.inl 1]) (M' := M1) rfl trivial (Wp.ret rfl ⟨_, rfl, h⟩)⟩
    · exact ⟨19, 4, rfl, Wp.path (k := 1) [] (C := []) (pc' := 20) (ls' := [some (.inr (.inr (9, 0))), some (.inl x1), some (.inl x2), some (.inr (.inr (50, 0))), none]) (st' := [.inl 2]) (M' := M1) rfl trivial (Wp.ret rfl ⟨_, rfl, h⟩)⟩
/-- L_height -/
def W_1209 (x1 : Int) (x2 : Int) (M : Mm) (Q : Int → Mm → Prop) : Prop := Ew 3 1209 [.inr (.inr (9, 0)), .inl x1, .inl x2, .inr (.inr (50, 0))] M (rI Q)
theorem w_1209 {x1 : Int} {x2 : Int} {M : Mm} {Q : Int → Mm → Prop} (h : X_917 x1 x2 M (fun v M1 => Q 0 (setJ M1 50 0 0 ((Int32.ofInt v).toInt64))) (fun X M1 => (X = 3 ∧ Q 1 M1))) : W_1209 x1 x2 M Q := by
  show W1 3 1209 0 [some (.inr (.inr (9, 0))), some (.inl x1), some (.inl x2), some (.inr (.inr (50, 0))), none] [] M (rI Q)
  refine W1.path (k := 5) [] (C := []) (pc' := 5) (ls' := [some (.inr (.inr (9, 0))), some (.inl x1), some (.inl x2), some (.inr (.inr (50, 0))), none]) (st' := [.inl x2, .inl x1, .inr (.inr (9, 0)), .inl 0, .inr (.inr (50, 0))]) (M' := M) rfl trivial ?_
  refine W1.call h rfl rfl (by decide) ?_ ?_
  · rintro _ M1 ⟨r, rfl, h⟩
    show Wp 3 1209 8 [some (.inr (.inr (9, 0))), some (.inl x1), some (.inl x2), some (.inr (.inr (50, 0))), none] [.inl r, .inl 0, .inr (.inr (50, 0))] M1 (rI Q)
    refine Wp.path (k := 4) [] (C := [(0 : Int) ≤ 0 ∧ (0 : Int) < (1 : Nat)]) (pc' := 18) (ls' := [some (.inr (.inr (9, 0))), some (.inl x1), some (.inl x2), some (.inr (.inr (50, 0))), none]) (st' := [.inl 0]) (M' := setJ M1 50 0 0 ((Int32.ofInt r).toInt64)) rfl ⟨by decide, by decide⟩ ?_
    exact Wp.ret rfl ⟨_, rfl, h⟩
  · rintro X M1 ⟨rfl, h⟩
    exact ⟨15, 4, rfl, Wp.path (k := 1) [] (C := []) (pc' := 16) (ls' := [some (.inr (.inr (9, 0))), some (.inl x1), some (.inl x2), some (.inr (.inr (50, 0))), none]) (st' := [.inl 1]) (M' := M1) rfl trivial (Wp.ret rfl ⟨_, rfl, h⟩)⟩
/-- L_face -/
def W_1210 (x1 : Int) (x2 : Int) (M : Mm) (Q : Int → Mm → Prop) : Prop := Ew 7 1210 [.inr (.inr (9, 0)), .inl x1, .inl x2, .inr (.inr (50, 0))] M (rI Q)
theorem w_1210 {x1 : Int} {x2 : Int} {M : Mm} {Q : Int → Mm → Prop} (h : X_918 x1 x2 M (fun v M1 => Q 0 (setJ M1 50 0 0 ((Int32.ofInt v).toInt64))) (fun X M1 => (X = 3 ∧ Q 1 M1))) : W_1210 x1 x2 M Q := by
  show W1 7 1210 0 [some (.inr (.inr (9, 0))), some (.inl x1), some (.inl x2), some (.inr (.inr (50, 0))), none] [] M (rI Q)
  refine W1.path (k := 5) [] (C := []) (pc' := 5) (ls' := [some (.inr (.inr (9, 0))), some (.inl x1), some (.inl x2), some (.inr (.inr (50, 0))), none]) (st' := [.inl x2, .inl x1, .inr (.inr (9, 0)), .inl 0, .inr (.inr (50, 0))]) (M' := M) rfl trivial ?_
  refine W1.call h rfl rfl (by decide) ?_ ?_
  · rintro _ M1 ⟨r, rfl, h⟩
    show Wp 7 1210 8 [some (.inr (.inr (9, 0))), some (.inl x1), some (.inl x2), some (.inr (.inr (50, 0))), none] [.inl r, .inl 0, .inr (.inr (50, 0))] M1 (rI Q)
    refine Wp.path (k := 4) [] (C := [(0 : Int) ≤ 0 ∧ (0 : Int) < (1 : Nat)]) (pc' := 18) (ls' := [some (.inr (.inr (9, 0))), some (.inl x1), some (.inl x2), some (.inr (.inr (50, 0))), none]) (st' := [.inl 0]) (M' := setJ M1 50 0 0 ((Int32.ofInt r).toInt64)) rfl ⟨by decide, by decide⟩ ?_
    exact Wp.ret rfl ⟨_, rfl, h⟩
  · rintro X M1 ⟨rfl, h⟩
    exact ⟨15, 4, rfl, Wp.path (k := 1) [] (C := []) (pc' := 16) (ls' := [some (.inr (.inr (9, 0))), some (.inl x1), some (.inl x2), some (.inr (.inr (50, 0))), none]) (st' := [.inl 1]) (M' := M1) rfl trivial (Wp.ret rfl ⟨_, rfl, h⟩)⟩
/-- L_area -/
def W_1211 (x1 : Int) (M : Mm) (Q : Int → Mm → Prop) : Prop := Ew 7 1211 [.inr (.inr (9, 0)), .inl x1, .inr (.inr (50, 0))] M (rI Q)
theorem w_1211 {x1 : Int} {M : Mm} {Q : Int → Mm → Prop} (h : X_919 x1 M (fun v M1 => Q 0 (setJ M1 50 0 0 ((Int32.ofInt v).toInt64))) (fun X M1 => (X = 1 ∧ Q 1 M1))) : W_1211 x1 M Q := by
  show W1 7 1211 0 [some (.inr (.inr (9, 0))), some (.inl x1), some (.inr (.inr (50, 0))), none] [] M (rI Q)
  refine W1.path (k := 4) [] (C := []) (pc' := 4) (ls' := [some (.inr (.inr (9, 0))), some (.inl x1), some (.inr (.inr (50, 0))), none]) (st' := [.inl x1, .inr (.inr (9, 0)), .inl 0, .inr (.inr (50, 0))]) (M' := M) rfl trivial ?_
  refine W1.call h rfl rfl (by decide) ?_ ?_
  · rintro _ M1 ⟨r, rfl, h⟩
    show Wp 7 1211 7 [some (.inr (.inr (9, 0))), some (.inl x1), some (.inr (.inr (50, 0))), none] [.inl r, .inl 0, .inr (.inr (50, 0))] M1 (rI Q)
    refine Wp.path (k := 4) [] (C := [(0 : Int) ≤ 0 ∧ (0 : Int) < (1 : Nat)]) (pc' := 16) (ls' := [some (.inr (.inr (9, 0))), some (.inl x1), some (.inr (.inr (50, 0))), none]) (st' := [.inl 0]) (M' := setJ M1 50 0 0 ((Int32.ofInt r).toInt64)) rfl ⟨by decide, by decide⟩ ?_
    exact Wp.ret rfl ⟨_, rfl, h⟩
  · rintro X M1 ⟨rfl, h⟩
    exact ⟨13, 3, rfl, Wp.path (k := 1) [] (C := []) (pc' := 14) (ls' := [some (.inr (.inr (9, 0))), some (.inl x1), some (.inr (.inr (50, 0))), none]) (st' := [.inl 1]) (M' := M1) rfl trivial (Wp.ret rfl ⟨_, rfl, h⟩)⟩
/-- L_phase -/
def W_1212 (x1 : Int) (x2 : Int) (M : Mm) (Q : Int → Mm → Prop) : Prop := Ew 7 1212 [.inr (.inr (9, 0)), .inl x1, .inl x2, .inr (.inr (50, 0))] M (rI Q)
theorem w_1212 {x1 : Int} {x2 : Int} {M : Mm} {Q : Int → Mm → Prop} (h : X_922 x1 x2 M (fun v M1 => Q 0 (setJ M1 50 0 0 ((Int32.ofInt v).toInt64))) (fun X M1 => (X = 3 ∧ Q 1 M1) ∨ (X = 1 ∧ Q 2 M1))) : W_1212 x1 x2 M Q := by
  show W1 7 1212 0 [some (.inr (.inr (9, 0))), some (.inl x1), some (.inl x2), some (.inr (.inr (50, 0))), none] [] M (rI Q)
  refine W1.path (k := 5) [] (C := []) (pc' := 5) (ls' := [some (.inr (.inr (9, 0))), some (.inl x1), some (.inl x2), some (.inr (.inr (50, 0))), none]) (st' := [.inl x2, .inl x1, .inr (.inr (9, 0)), .inl 0, .inr (.inr (50, 0))]) (M' := M) rfl trivial ?_
  refine W1.call h rfl rfl (by decide) ?_ ?_
  · rintro _ M1 ⟨r, rfl, h⟩
    show Wp 7 1212 8 [some (.inr (.inr (9, 0))), some (.inl x1), some (.inl x2), some (.inr (.inr (50, 0))), none] [.inl r, .inl 0, .inr (.inr (50, 0))] M1 (rI Q)
    refine Wp.path (k := 4) [] (C := [(0 : Int) ≤ 0 ∧ (0 : Int) < (1 : Nat)]) (pc' := 22) (ls' := [some (.inr (.inr (9, 0))), some (.inl x1), some (.inl x2), some (.inr (.inr (50, 0))), none]) (st' := [.inl 0]) (M' := setJ M1 50 0 0 ((Int32.ofInt r).toInt64)) rfl ⟨by decide, by decide⟩ ?_
    exact Wp.ret rfl ⟨_, rfl, h⟩
  · rintro X M1 (⟨rfl, h⟩ | ⟨rfl, h⟩)
    · exact ⟨15, 4, rfl, Wp.path (k := 1) [] (C := []) (pc' := 16) (ls' := [some (.inr (.inr (9, 0))), some (.inl x1), some (.inl x2), some (.inr (.inr (50, 0))), none]) (st' := [.inl 1]) (M' := M1) rfl trivial (Wp.ret rfl ⟨_, rfl, h⟩)⟩
    · exact ⟨19, 4, rfl, Wp.path (k := 1) [] (C := []) (pc' := 20) (ls' := [some (.inr (.inr (9, 0))), some (.inl x1), some (.inl x2), some (.inr (.inr (50, 0))), none]) (st' := [.inl 2]) (M' := M1) rfl trivial (Wp.ret rfl ⟨_, rfl, h⟩)⟩
/-- L_contour -/
def W_1213 (x1 : Int) (x2 : Int) (x3 : Int) (M : Mm) (Q : Int → Mm → Prop) : Prop := Ew 7 1213 [.inr (.inr (9, 0)), .inl x1, .inl x2, .inl x3, .inr (.inr (50, 0))] M (rI Q)
theorem w_1213 {x1 : Int} {x2 : Int} {x3 : Int} {M : Mm} {Q : Int → Mm → Prop} (h : X_923 x1 x2 x3 M (fun v M1 => Q 0 (setJ M1 50 0 0 ((Int32.ofInt v).toInt64))) (fun X M1 => (X = 3 ∧ Q 1 M1) ∨ (X = 1 ∧ Q 2 M1))) : W_1213 x1 x2 x3 M Q := by
  show W1 7 1213 0 [some (.inr (.inr (9, 0))), some (.inl x1), some (.inl x2), some (.inl x3), some (.inr (.inr (50, 0))), none] [] M (rI Q)
  refine W1.path (k := 6) [] (C := []) (pc' := 7) (ls' := [some (.inr (.inr (9, 0))), some (.inl x1), some (.inl x2), some (.inl x3), some (.inr (.inr (50, 0))), none]) (st' := [.inl x3, .inl x2, .inl x1, .inr (.inr (9, 0)), .inl 0, .inr (.inr (50, 0))]) (M' := M) rfl trivial ?_
  refine W1.call h rfl rfl (by decide) ?_ ?_
  · rintro _ M1 ⟨r, rfl, h⟩
    show Wp 7 1213 10 [some (.inr (.inr (9, 0))), some (.inl x1), some (.inl x2), some (.inl x3), some (.inr (.inr (50, 0))), none] [.inl r, .inl 0, .inr (.inr (50, 0))] M1 (rI Q)
    refine Wp.path (k := 4) [] (C := [(0 : Int) ≤ 0 ∧ (0 : Int) < (1 : Nat)]) (pc' := 24) (ls' := [some (.inr (.inr (9, 0))), some (.inl x1), some (.inl x2), some (.inl x3), some (.inr (.inr (50, 0))), none]) (st' := [.inl 0]) (M' := setJ M1 50 0 0 ((Int32.ofInt r).toInt64)) rfl ⟨by decide, by decide⟩ ?_
    exact Wp.ret rfl ⟨_, rfl, h⟩
  · rintro X M1 (⟨rfl, h⟩ | ⟨rfl, h⟩)
    · exact ⟨17, 5, rfl, Wp.path (k := 1) [] (C := []) (pc' := 18) (ls' := [some (.inr (.inr (9, 0))), some (.inl x1), some (.inl x2), some (.inl x3), some (.inr (.inr (50, 0))), none]) (st' := [.inl 1]) (M' := M1) rfl trivial (Wp.ret rfl ⟨_, rfl, h⟩)⟩
    · exact ⟨21, 5, rfl, Wp.path (k := 1) [] (C := []) (pc' := 22) (ls' := [some (.inr (.inr (9, 0))), some (.inl x1), some (.inl x2), some (.inl x3), some (.inr (.inr (50, 0))), none]) (st' := [.inl 2]) (M' := M1) rfl trivial (Wp.ret rfl ⟨_, rfl, h⟩)⟩
/-- L_vertex -/
def W_1214 (x1 : Int) (x2 : Int) (x3 : Int) (x4 : Int) (M : Mm) (Q : Int → Mm → Prop) : Prop := Ew 7 1214 [.inr (.inr (9, 0)), .inl x1, .inl x2, .inl x3, .inl x4, .inr (.inr (50, 0))] M (rI Q)
theorem w_1214 {x1 : Int} {x2 : Int} {x3 : Int} {x4 : Int} {M : Mm} {Q : Int → Mm → Prop} (h : X_924 x1 x2 x3 x4 M (fun v M1 => Q 0 (setJ M1 50 0 0 ((Int32.ofInt v).toInt64))) (fun X M1 => (X = 3 ∧ Q 1 M1) ∨ (X = 1 ∧ Q 2 M1))) : W_1214 x1 x2 x3 x4 M Q := by
  show W1 7 1214 0 [some (.inr (.inr (9, 0))), some (.inl x1), some (.inl x2), some (.inl x3), some (.inl x4), some (.inr (.inr (50, 0))), none] [] M (rI Q)
  refine W1.path (k := 7) [] (C := []) (pc' := 9) (ls' := [some (.inr (.inr (9, 0))), some (.inl x1), some (.inl x2), some (.inl x3), some (.inl x4), some (.inr (.inr (50, 0))), none]) (st' := [.inl x4, .inl x3, .inl x2, .inl x1, .inr (.inr (9, 0)), .inl 0, .inr (.inr (50, 0))]) (M' := M) rfl trivial ?_
  refine W1.call h rfl rfl (by decide) ?_ ?_
  · rintro _ M1 ⟨r, rfl, h⟩
    show Wp 7 1214 12 [some (.inr (.inr (9, 0))), some (.inl x1), some (.inl x2), some (.inl x3), some (.inl x4), some (.inr (.inr (50, 0))), none] [.inl r, .inl 0, .inr (.inr (50, 0))] M1 (rI Q)
    refine Wp.path (k := 4) [] (C := [(0 : Int) ≤ 0 ∧ (0 : Int) < (1 : Nat)]) (pc' := 26) (ls' := [some (.inr (.inr (9, 0))), some (.inl x1), some (.inl x2), some (.inl x3), some (.inl x4), some (.inr (.inr (50, 0))), none]) (st' := [.inl 0]) (M' := setJ M1 50 0 0 ((Int32.ofInt r).toInt64)) rfl ⟨by decide, by decide⟩ ?_
    exact Wp.ret rfl ⟨_, rfl, h⟩
  · rintro X M1 (⟨rfl, h⟩ | ⟨rfl, h⟩)
    · exact ⟨19, 6, rfl, Wp.path (k := 1) [] (C := []) (pc' := 20) (ls' := [some (.inr (.inr (9, 0))), some (.inl x1), some (.inl x2), some (.inl x3), some (.inl x4), some (.inr (.inr (50, 0))), none]) (st' := [.inl 1]) (M' := M1) rfl trivial (Wp.ret rfl ⟨_, rfl, h⟩)⟩
    · exact ⟨23, 6, rfl, Wp.path (k := 1) [] (C := []) (pc' := 24) (ls' := [some (.inr (.inr (9, 0))), some (.inl x1), some (.inl x2), some (.inl x3), some (.inl x4), some (.inr (.inr (50, 0))), none]) (st' := [.inl 2]) (M' := M1) rfl trivial (Wp.ret rfl ⟨_, rfl, h⟩)⟩
/-- L_origin -/
def W_1215 (x1 : Int) (x2 : Int) (x3 : Int) (x4 : Int) (M : Mm) (Q : Int → Mm → Prop) : Prop := Ew 7 1215 [.inr (.inr (9, 0)), .inl x1, .inl x2, .inl x3, .inl x4, .inr (.inr (50, 0))] M (rI Q)
theorem w_1215 {x1 : Int} {x2 : Int} {x3 : Int} {x4 : Int} {M : Mm} {Q : Int → Mm → Prop} (h : X_925 x1 x2 x3 x4 M (fun v M1 => Q 0 (setJ M1 50 0 0 ((Int32.ofInt v).toInt64))) (fun X M1 => (X = 3 ∧ Q 1 M1) ∨ (X = 1 ∧ Q 2 M1))) : W_1215 x1 x2 x3 x4 M Q := by
  show W1 7 1215 0 [some (.inr (.inr (9, 0))), some (.inl x1), some (.inl x2), some (.inl x3), some (.inl x4), some (.inr (.inr (50, 0))), none] [] M (rI Q)
  refine W1.path (k := 7) [] (C := []) (pc' := 9) (ls' := [some (.inr (.inr (9, 0))), some (.inl x1), some (.inl x2), some (.inl x3), some (.inl x4), some (.inr (.inr (50, 0))), none]) (st' := [.inl x4, .inl x3, .inl x2, .inl x1, .inr (.inr (9, 0)), .inl 0, .inr (.inr (50, 0))]) (M' := M) rfl trivial ?_
  refine W1.call h rfl rfl (by decide) ?_ ?_
  · rintro _ M1 ⟨r, rfl, h⟩
    show Wp 7 1215 12 [some (.inr (.inr (9, 0))), some (.inl x1), some (.inl x2), some (.inl x3), some (.inl x4), some (.inr (.inr (50, 0))), none] [.inl r, .inl 0, .inr (.inr (50, 0))] M1 (rI Q)
    refine Wp.path (k := 4) [] (C := [(0 : Int) ≤ 0 ∧ (0 : Int) < (1 : Nat)]) (pc' := 26) (ls' := [some (.inr (.inr (9, 0))), some (.inl x1), some (.inl x2), some (.inl x3), some (.inl x4), some (.inr (.inr (50, 0))), none]) (st' := [.inl 0]) (M' := setJ M1 50 0 0 ((Int32.ofInt r).toInt64)) rfl ⟨by decide, by decide⟩ ?_
    exact Wp.ret rfl ⟨_, rfl, h⟩
  · rintro X M1 (⟨rfl, h⟩ | ⟨rfl, h⟩)
    · exact ⟨19, 6, rfl, Wp.path (k := 1) [] (C := []) (pc' := 20) (ls' := [some (.inr (.inr (9, 0))), some (.inl x1), some (.inl x2), some (.inl x3), some (.inl x4), some (.inr (.inr (50, 0))), none]) (st' := [.inl 1]) (M' := M1) rfl trivial (Wp.ret rfl ⟨_, rfl, h⟩)⟩
    · exact ⟨23, 6, rfl, Wp.path (k := 1) [] (C := []) (pc' := 24) (ls' := [some (.inr (.inr (9, 0))), some (.inl x1), some (.inl x2), some (.inl x3), some (.inl x4), some (.inr (.inr (50, 0))), none]) (st' := [.inl 2]) (M' := M1) rfl trivial (Wp.ret rfl ⟨_, rfl, h⟩)⟩
/-- L_component -/
def W_1216 (x1 : Int) (x2 : Int) (x3 : Int) (M : Mm) (Q : Int → Mm → Prop) : Prop := Ew 7 1216 [.inr (.inr (9, 0)), .inl x1, .inl x2, .inl x3, .inr (.inr (50, 0))] M (rI Q)
theorem w_1216 {x1 : Int} {x2 : Int} {x3 : Int} {M : Mm} {Q : Int → Mm → Prop} (h : X_926 x1 x2 x3 M (fun v M1 => Q 0 (setJ M1 50 0 0 ((Int32.ofInt v).toInt64))) (fun X M1 => (X = 3 ∧ Q 1 M1))) : W_1216 x1 x2 x3 M Q := by
  show W1 7 1216 0 [some (.inr (.inr (9, 0))), some (.inl x1), some (.inl x2), some (.inl x3), some (.inr (.inr (50, 0))), none] [] M (rI Q)
  refine W1.path (k := 6) [] (C := []) (pc' := 7) (ls' := [some (.inr (.inr (9, 0))), some (.inl x1), some (.inl x2), some (.inl x3), some (.inr (.inr (50, 0))), none]) (st' := [.inl x3, .inl x2, .inl x1, .inr (.inr (9, 0)), .inl 0, .inr (.inr (50, 0))]) (M' := M) rfl trivial ?_
  refine W1.call h rfl rfl (by decide) ?_ ?_
  · rintro _ M1 ⟨r, rfl, h⟩
    show Wp 7 1216 10 [some (.inr (.inr (9, 0))), some (.inl x1), some (.inl x2), some (.inl x3), some (.inr (.inr (50, 0))), none] [.inl r, .inl 0, .inr (.inr (50, 0))] M1 (rI Q)
    refine Wp.path (k := 4) [] (C := [(0 : Int) ≤ 0 ∧ (0 : Int) < (1 : Nat)]) (pc' := 20) (ls' := [some (.inr (.inr (9, 0))), some (.inl x1), some (.inl x2), some (.inl x3), some (.inr (.inr (50, 0))), none]) (st' := [.inl 0]) (M' := setJ M1 50 0 0 ((Int32.ofInt r).toInt64)) rfl ⟨by decide, by decide⟩ ?_
    exact Wp.ret rfl ⟨_, rfl, h⟩
  · rintro X M1 ⟨rfl, h⟩
    exact ⟨17, 5, rfl, Wp.path (k := 1) [] (C := []) (pc' := 18) (ls' := [some (.inr (.inr (9, 0))), some (.inl x1), some (.inl x2), some (.inl x3), some (.inr (.inr (50, 0))), none]) (st' := [.inl 1]) (M' := M1) rfl trivial (Wp.ret rfl ⟨_, rfl, h⟩)⟩
/-- L_event -/
def W_1217 (x1 : Int) (x2 : Int) (M : Mm) (Q : Int → Mm → Prop) : Prop := Ew 7 1217 [.inr (.inr (9, 0)), .inl x1, .inl x2, .inr (.inr (50, 0))] M (rI Q)
theorem w_1217 {x1 : Int} {x2 : Int} {M : Mm} {Q : Int → Mm → Prop} (h : X_928 x1 x2 M (fun v M1 => Q 0 (setJ M1 50 0 0 ((Int32.ofInt v).toInt64))) (fun X M1 => (X = 3 ∧ Q 1 M1) ∨ (X = 1 ∧ Q 2 M1))) : W_1217 x1 x2 M Q := by
  show W1 7 1217 0 [some (.inr (.inr (9, 0))), some (.inl x1), some (.inl x2), some (.inr (.inr (50, 0))), none] [] M (rI Q)
  refine W1.path (k := 5) [] (C := []) (pc' := 5) (ls' := [some (.inr (.inr (9, 0))), some (.inl x1), some (.inl x2), some (.inr (.inr (50, 0))), none]) (st' := [.inl x2, .inl x1, .inr (.inr (9, 0)), .inl 0, .inr (.inr (50, 0))]) (M' := M) rfl trivial ?_
  refine W1.call h rfl rfl (by decide) ?_ ?_
  · rintro _ M1 ⟨r, rfl, h⟩
    show Wp 7 1217 8 [some (.inr (.inr (9, 0))), some (.inl x1), some (.inl x2), some (.inr (.inr (50, 0))), none] [.inl r, .inl 0, .inr (.inr (50, 0))] M1 (rI Q)
    refine Wp.path (k := 4) [] (C := [(0 : Int) ≤ 0 ∧ (0 : Int) < (1 : Nat)]) (pc' := 22) (ls' := [some (.inr (.inr (9, 0))), some (.inl x1), some (.inl x2), some (.inr (.inr (50, 0))), none]) (st' := [.inl 0]) (M' := setJ M1 50 0 0 ((Int32.ofInt r).toInt64)) rfl ⟨by decide, by decide⟩ ?_
    exact Wp.ret rfl ⟨_, rfl, h⟩
  · rintro X M1 (⟨rfl, h⟩ | ⟨rfl, h⟩)
    · exact ⟨15, 4, rfl, Wp.path (k := 1) [] (C := []) (pc' := 16) (ls' := [some (.inr (.inr (9, 0))), some (.inl x1), some (.inl x2), some (.inr (.inr (50, 0))), none]) (st' := [.inl 1]) (M' := M1) rfl trivial (Wp.ret rfl ⟨_, rfl, h⟩)⟩
    · exact ⟨19, 4, rfl, Wp.path (k := 1) [] (C := []) (pc' := 20) (ls' := [some (.inr (.inr (9, 0))), some (.inl x1), some (.inl x2), some (.inr (.inr (50, 0))), none]) (st' := [.inl 2]) (M' := M1) rfl trivial (Wp.ret rfl ⟨_, rfl, h⟩)⟩
/-- L_branch -/
def W_1218 (x1 : Int) (x2 : Int) (M : Mm) (Q : Int → Mm → Prop) : Prop := Ew 7 1218 [.inr (.inr (9, 0)), .inl x1, .inl x2, .inr (.inr (50, 0))] M (rI Q)
theorem w_1218 {x1 : Int} {x2 : Int} {M : Mm} {Q : Int → Mm → Prop} (h : X_930 x1 x2 M (fun v M1 => Q 0 (setJ M1 50 0 0 ((Int32.ofInt v).toInt64))) (fun X M1 => (X = 3 ∧ Q 1 M1) ∨ (X = 1 ∧ Q 2 M1))) : W_1218 x1 x2 M Q := by
  show W1 7 1218 0 [some (.inr (.inr (9, 0))), some (.inl x1), some (.inl x2), some (.inr (.inr (50, 0))), none] [] M (rI Q)
  refine W1.path (k := 5) [] (C := []) (pc' := 5) (ls' := [some (.inr (.inr (9, 0))), some (.inl x1), some (.inl x2), some (.inr (.inr (50, 0))), none]) (st' := [.inl x2, .inl x1, .inr (.inr (9, 0)), .inl 0, .inr (.inr (50, 0))]) (M' := M) rfl trivial ?_
  refine W1.call h rfl rfl (by decide) ?_ ?_
  · rintro _ M1 ⟨r, rfl, h⟩
    show Wp 7 1218 8 [some (.inr (.inr (9, 0))), some (.inl x1), some (.inl x2), some (.inr (.inr (50, 0))), none] [.inl r, .inl 0, .inr (.inr (50, 0))] M1 (rI Q)
    refine Wp.path (k := 4) [] (C := [(0 : Int) ≤ 0 ∧ (0 : Int) < (1 : Nat)]) (pc' := 22) (ls' := [some (.inr (.inr (9, 0))), some (.inl x1), some (.inl x2), some (.inr (.inr (50, 0))), none]) (st' := [.inl 0]) (M' := setJ M1 50 0 0 ((Int32.ofInt r).toInt64)) rfl ⟨by decide, by decide⟩ ?_
    exact Wp.ret rfl ⟨_, rfl, h⟩
  · rintro X M1 (⟨rfl, h⟩ | ⟨rfl, h⟩)
    · exact ⟨15, 4, rfl, Wp.path (k := 1) [] (C := []) (pc' := 16) (ls' := [some (.inr (.inr (9, 0))), some (.inl x1), some (.inl x2), some (.inr (.inr (50, 0))), none]) (st' := [.inl 1]) (M' := M1) rfl trivial (Wp.ret rfl ⟨_, rfl, h⟩)⟩
    · exact ⟨19, 4, rfl, Wp.path (k := 1) [] (C := []) (pc' := 20) (ls' := [some (.inr (.inr (9, 0))), some (.inl x1), some (.inl x2), some (.inr (.inr (50, 0))), none]) (st' := [.inl 2]) (M' := M1) rfl trivial (Wp.ret rfl ⟨_, rfl, h⟩)⟩
/-- L_clearance -/
def W_1219 (x1 : Int) (x2 : Int) (x3 : Int) (x4 : Int) (M : Mm) (Q : Int → Mm → Prop) : Prop := Ew 7 1219 [.inr (.inr (9, 0)), .inl x1, .inl x2, .inl x3, .inl x4, .inr (.inr (50, 0))] M (rI Q)
theorem w_1219 {x1 : Int} {x2 : Int} {x3 : Int} {x4 : Int} {M : Mm} {Q : Int → Mm → Prop} (h : X_931 x1 x2 x3 x4 M (fun v M1 => Q 0 (setJ M1 50 0 0 ((Int32.ofInt v).toInt64))) (fun X M1 => (X = 3 ∧ Q 1 M1))) : W_1219 x1 x2 x3 x4 M Q := by
  show W1 7 1219 0 [some (.inr (.inr (9, 0))), some (.inl x1), some (.inl x2), some (.inl x3), some (.inl x4), some (.inr (.inr (50, 0))), none] [] M (rI Q)
  refine W1.path (k := 7) [] (C := []) (pc' := 9) (ls' := [some (.inr (.inr (9, 0))), some (.inl x1), some (.inl x2), some (.inl x3), some (.inl x4), some (.inr (.inr (50, 0))), none]) (st' := [.inl x4, .inl x3, .inl x2, .inl x1, .inr (.inr (9, 0)), .inl 0, .inr (.inr (50, 0))]) (M' := M) rfl trivial ?_
  refine W1.call h rfl rfl (by decide) ?_ ?_
  · rintro _ M1 ⟨r, rfl, h⟩
    show Wp 7 1219 12 [some (.inr (.inr (9, 0))), some (.inl x1), some (.inl x2), some (.inl x3), some (.inl x4), some (.inr (.inr (50, 0))), none] [.inl r, .inl 0, .inr (.inr (50, 0))] M1 (rI Q)
    refine Wp.path (k := 4) [] (C := [(0 : Int) ≤ 0 ∧ (0 : Int) < (1 : Nat)]) (pc' := 22) (ls' := [some (.inr (.inr (9, 0))), some (.inl x1), some (.inl x2), some (.inl x3), some (.inl x4), some (.inr (.inr (50, 0))), none]) (st' := [.inl 0]) (M' := setJ M1 50 0 0 ((Int32.ofInt r).toInt64)) rfl ⟨by decide, by decide⟩ ?_
    exact Wp.ret rfl ⟨_, rfl, h⟩
  · rintro X M1 ⟨rfl, h⟩
    exact ⟨19, 6, rfl, Wp.path (k := 1) [] (C := []) (pc' := 20) (ls' := [some (.inr (.inr (9, 0))), some (.inl x1), some (.inl x2), some (.inl x3), some (.inl x4), some (.inr (.inr (50, 0))), none]) (st' := [.inl 1]) (M' := M1) rfl trivial (Wp.ret rfl ⟨_, rfl, h⟩)⟩
/-- L_path -/
def W_1220 (x1 : Int) (x2 : Int) (x3 : Int) (x4 : Int) (x5 : Int) (M : Mm) (Q : Int → Mm → Prop) : Prop := Ew 7 1220 [.inr (.inr (9, 0)), .inl x1, .inl x2, .inl x3, .inl x4, .inl x5, .inr (.inr (50, 0))] M (rI Q)
theorem w_1220 {x1 : Int} {x2 : Int} {x3 : Int} {x4 : Int} {x5 : Int} {M : Mm} {Q : Int → Mm → Prop} (h : X_932 x1 x2 x3 x4 x5 M (fun v M1 => Q 0 (setJ M1 50 0 0 ((Int32.ofInt v).toInt64))) (fun X M1 => (X = 3 ∧ Q 1 M1))) : W_1220 x1 x2 x3 x4 x5 M Q := by
  show W1 7 1220 0 [some (.inr (.inr (9, 0))), some (.inl x1), some (.inl x2), some (.inl x3), some (.inl x4), some (.inl x5), some (.inr (.inr (50, 0))), none] [] M (rI Q)
  refine W1.path (k := 8) [] (C := []) (pc' := 11) (ls' := [some (.inr (.inr (9, 0))), some (.inl x1), some (.inl x2), some (.inl x3), some (.inl x4), some (.inl x5), some (.inr (.inr (50, 0))), none]) (st' := [.inl x5, .inl x4, .inl x3, .inl x2, .inl x1, .inr (.inr (9, 0)), .inl 0, .inr (.inr (50, 0))]) (M' := M) rfl trivial ?_
  refine W1.call h rfl rfl (by decide) ?_ ?_
  · rintro _ M1 ⟨r, rfl, h⟩
    show Wp 7 1220 14 [some (.inr (.inr (9, 0))), some (.inl x1), some (.inl x2), some (.inl x3), some (.inl x4), some (.inl x5), some (.inr (.inr (50, 0))), none] [.inl r, .inl 0, .inr (.inr (50, 0))] M1 (rI Q)
    refine Wp.path (k := 4) [] (C := [(0 : Int) ≤ 0 ∧ (0 : Int) < (1 : Nat)]) (pc' := 24) (ls' := [some (.inr (.inr (9, 0))), some (.inl x1), some (.inl x2), some (.inl x3), some (.inl x4), some (.inl x5), some (.inr (.inr (50, 0))), none]) (st' := [.inl 0]) (M' := setJ M1 50 0 0 ((Int32.ofInt r).toInt64)) rfl ⟨by decide, by decide⟩ ?_
    exact Wp.ret rfl ⟨_, rfl, h⟩
  · rintro X M1 ⟨rfl, h⟩
    exact ⟨21, 7, rfl, Wp.path (k := 1) [] (C := []) (pc' := 22) (ls' := [some (.inr (.inr (9, 0))), some (.inl x1), some (.inl x2), some (.inl x3), some (.inl x4), some (.inl x5), some (.inr (.inr (50, 0))), none]) (st' := [.inl 1]) (M' := M1) rfl trivial (Wp.ret rfl ⟨_, rfl, h⟩)⟩
/-- L_count -/
def W_1221 (x1 : Int) (M : Mm) (Q : Int → Mm → Prop) : Prop := Ew 3 1221 [.inr (.inr (9, 0)), .inl x1, .inr (.inr (50, 0))] M (rI Q)
theorem w_1221 {x1 : Int} {M : Mm} {Q : Int → Mm → Prop} (h : X_933 x1 M (fun v M1 => Q 0 (setJ M1 50 0 0 ((Int32.ofInt v).toInt64))) (fun X M1 => (X = 1 ∧ Q 1 M1))) : W_1221 x1 M Q := by
  show W1 3 1221 0 [some (.inr (.inr (9, 0))), some (.inl x1), some (.inr (.inr (50, 0))), none] [] M (rI Q)
  refine W1.path (k := 4) [] (C := []) (pc' := 4) (ls' := [some (.inr (.inr (9, 0))), some (.inl x1), some (.inr (.inr (50, 0))), none]) (st' := [.inl x1, .inr (.inr (9, 0)), .inl 0, .inr (.inr (50, 0))]) (M' := M) rfl trivial ?_
  refine W1.call h rfl rfl (by decide) ?_ ?_
  · rintro _ M1 ⟨r, rfl, h⟩
    show Wp 3 1221 7 [some (.inr (.inr (9, 0))), some (.inl x1), some (.inr (.inr (50, 0))), none] [.inl r, .inl 0, .inr (.inr (50, 0))] M1 (rI Q)
    refine Wp.path (k := 4) [] (C := [(0 : Int) ≤ 0 ∧ (0 : Int) < (1 : Nat)]) (pc' := 16) (ls' := [some (.inr (.inr (9, 0))), some (.inl x1), some (.inr (.inr (50, 0))), none]) (st' := [.inl 0]) (M' := setJ M1 50 0 0 ((Int32.ofInt r).toInt64)) rfl ⟨by decide, by decide⟩ ?_
    exact Wp.ret rfl ⟨_, rfl, h⟩
  · rintro X M1 ⟨rfl, h⟩
    exact ⟨13, 3, rfl, Wp.path (k := 1) [] (C := []) (pc' := 14) (ls' := [some (.inr (.inr (9, 0))), some (.inl x1), some (.inr (.inr (50, 0))), none]) (st' := [.inl 1]) (M' := M1) rfl trivial (Wp.ret rfl ⟨_, rfl, h⟩)⟩
/-- the law at the head of its loop -/
def Lw (n : Nat) (xs : Nat → Int) (q : Nat) (x : Int) (M : Mm) : Prop := ∀ o5 o6 : Option Vv, Wl n xs q 23 [some (.inr (.inr (51, 0))), some (.inr (.inr (9, 0))), some (.inr (.inr (10, 0))), some (.inr (.inr (50, 0))), some (.inl x), o5, o6] [] M
theorem lc_0 {n : Nat} {xs : Nat → Int} {q : Nat} {x : Int} {M : Mm} (h0 : 0 ≤ x) (h6 : x + 6 ≤ n) (h3 : n ≤ 3072) (h : W_1200 (xs (x + 1).toNat) (xs (x + 2).toNat) (xs (x + 3).toNat) (xs (x + 4).toNat) (xs (x + 5).toNat) M (fun (r : Int) (M1 : Mm) => E_1010 (xs (x + 1).toNat) (xs (x + 2).toNat) (xs (x + 3).toNat) (xs (x + 4).toNat) (xs (x + 5).toNat) M1 (fun (b : Int) (M2 : Mm) => M2.1 10 0 0 = r ∧ (r = 0 → M2.2 50 0 0 = (Int32.ofInt b).toInt64) ∧ Lw n xs q (x + 6) M2))) (o5 o6 : Option Vv) : Wl n xs (q + 1) 188 [some (.inr (.inr (51, 0))), some (.inr (.inr (9, 0))), some (.inr (.inr (10, 0))), some (.inr (.inr (50, 0))), some (.inl x), o5, o6] [] M := by
  refine Wl.path (k := 27) [] (C := [inR (x + 1), 0 ≤ x + 1 ∧ x + 1 < (n : Int), inR (x + 2), 0 ≤ x + 2 ∧ x + 2 < (n : Int), inR (x + 3), 0 ≤ x + 3 ∧ x + 3 < (n : Int), inR (x + 4), 0 ≤ x + 4 ∧ x + 4 < (n : Int), inR (x + 5), 0 ≤ x + 5 ∧ x + 5 < (n : Int)]) (pc' := 220) (ls' := [some (.inr (.inr (51, 0))), some (.inr (.inr (9, 0))), some (.inr (.inr (10, 0))), some (.inr (.inr (50, 0))), some (.inl x), o5, o6]) (st' := [.inr (.inr (50, 0)), .inl (xs (x + 5).toNat), .inl (xs (x + 4).toNat), .inl (xs (x + 3).toNat), .inl (xs (x + 2).toNat), .inl (xs (x + 1).toNat), .inr (.inr (9, 0))]) (M' := M) rfl ⟨(by unfold inR; omega : inR (x + 1)), (by omega : 0 ≤ x + 1 ∧ x + 1 < (n : Int)), (by unfold inR; omega : inR (x + 2)), (by omega : 0 ≤ x + 2 ∧ x + 2 < (n : Int)), (by unfold inR; omega : inR (x + 3)), (by omega : 0 ≤ x + 3 ∧ x + 3 < (n : Int)), (by unfold inR; omega : inR (x + 4)), (by omega : 0 ≤ x + 4 ∧ x + 4 < (n : Int)), (by unfold inR; omega : inR (x + 5)), (by omega : 0 ≤ x + 5 ∧ x + 5 < (n : Int))⟩ ?_
  refine Wl.callw h rfl rfl (by decide) ?_
  rintro _ M1 ⟨r, rfl, h⟩
  show Wl n xs q 223 [some (.inr (.inr (51, 0))), some (.inr (.inr (9, 0))), some (.inr (.inr (10, 0))), some (.inr (.inr (50, 0))), some (.inl x), o5, o6] [.inl r] M1
  refine Wl.path (k := 27) [] (C := [inR (x + 1), 0 ≤ x + 1 ∧ x + 1 < (n : Int), inR (x + 2), 0 ≤ x + 2 ∧ x + 2 < (n : Int), inR (x + 3), 0 ≤ x + 3 ∧ x + 3 < (n : Int), inR (x + 4), 0 ≤ x + 4 ∧ x + 4 < (n : Int), inR (x + 5), 0 ≤ x + 5 ∧ x + 5 < (n : Int)]) (pc' := 256) (ls' := [some (.inr (.inr (51, 0))), some (.inr (.inr (9, 0))), some (.inr (.inr (10, 0))), some (.inr (.inr (50, 0))), some (.inl x), some (.inl r), o6]) (st' := [.inl (xs (x + 5).toNat), .inl (xs (x + 4).toNat), .inl (xs (x + 3).toNat), .inl (xs (x + 2).toNat), .inl (xs (x + 1).toNat), .inr (.inr (10, 0))]) (M' := M1) rfl ⟨(by unfold inR; omega : inR (x + 1)), (by omega : 0 ≤ x + 1 ∧ x + 1 < (n : Int)), (by unfold inR; omega : inR (x + 2)), (by omega : 0 ≤ x + 2 ∧ x + 2 < (n : Int)), (by unfold inR; omega : inR (x + 3)), (by omega : 0 ≤ x + 3 ∧ x + 3 < (n : Int)), (by unfold inR; omega : inR (x + 4)), (by omega : 0 ≤ x + 4 ∧ x + 4 < (n : Int)), (by unfold inR; omega : inR (x + 5)), (by omega : 0 ≤ x + 5 ∧ x + 5 < (n : Int))⟩ ?_
  refine Wl.call h rfl rfl (by decide) ?_
  rintro _ M2 ⟨b, rfl, h⟩
  show Wl n xs q 259 [some (.inr (.inr (51, 0))), some (.inr (.inr (9, 0))), some (.inr (.inr (10, 0))), some (.inr (.inr (50, 0))), some (.inl x), some (.inl r), o6] [.inl b] M2
  refine Wl.path (k := 2) [] (C := []) (pc' := 262) (ls' := [some (.inr (.inr (51, 0))), some (.inr (.inr (9, 0))), some (.inr (.inr (10, 0))), some (.inr (.inr (50, 0))), some (.inl x), some (.inl r), some (.inl b)]) (st' := [.inr (.inr (10, 0))]) (M' := M2) rfl trivial ?_
  refine Wl.call e1001 rfl rfl (by decide) ?_
  rintro _ _ ⟨rfl, rfl⟩
  rename_i M2
  show Wl n xs q 265 [some (.inr (.inr (51, 0))), some (.inr (.inr (9, 0))), some (.inr (.inr (10, 0))), some (.inr (.inr (50, 0))), some (.inl x), some (.inl r), some (.inl b)] [.inl (M2.1 10 0 0)] M2
  refine Wl.path (k := 2) [1] (C := [M2.1 10 0 0 = r]) (pc' := 272) (ls' := [some (.inr (.inr (51, 0))), some (.inr (.inr (9, 0))), some (.inr (.inr (10, 0))), some (.inr (.inr (50, 0))), some (.inl x), some (.inl r), some (.inl b)]) (st' := []) (M' := M2) rfl (h.1) ?_
  rcases Decidable.em (r = 0) with c | c
  · refine Wl.path (k := 9) [0, 1] (C := [r = 0, (0 : Int) ≤ 0 ∧ (0 : Int) < (1 : Nat), lcm (M2.2 50 0 0) ((Int32.ofInt b).toInt64) = 0]) (pc' := 289) (ls' := [some (.inr (.inr (51, 0))), some (.inr (.inr (9, 0))), some (.inr (.inr (10, 0))), some (.inr (.inr (50, 0))), some (.inl x), some (.inl r), some (.inl b)]) (st' := []) (M' := M2) rfl ⟨c, ⟨by decide, by decide⟩, (lcm_p _ _).mpr (h.2.1 c)⟩ ?_
    refine Wl.path (k := 3) [] (C := [inR (x + 6)]) (pc' := 23) (ls' := [some (.inr (.inr (51, 0))), some (.inr (.inr (9, 0))), some (.inr (.inr (10, 0))), some (.inr (.inr (50, 0))), some (.inl (x + 6)), some (.inl r), some (.inl b)]) (st' := []) (M' := M2) rfl (by unfold inR; omega : inR (x + 6)) ?_
    exact h.2.2 _ _
  · refine Wl.path (k := 2) [1] (C := [r ≠ 0]) (pc' := 289) (ls' := [some (.inr (.inr (51, 0))), some (.inr (.inr (9, 0))), some (.inr (.inr (10, 0))), some (.inr (.inr (50, 0))), some (.inl x), some (.inl r), some (.inl b)]) (st' := []) (M' := M2) rfl (c) ?_
    refine Wl.path (k := 3) [] (C := [inR (x + 6)]) (pc' := 23) (ls' := [some (.inr (.inr (51, 0))), some (.inr (.inr (9, 0))), some (.inr (.inr (10, 0))), some (.inr (.inr (50, 0))), some (.inl (x + 6)), some (.inl r), some (.inl b)]) (st' := []) (M' := M2) rfl (by unfold inR; omega : inR (x + 6)) ?_
    exact h.2.2 _ _
theorem lc_1 {n : Nat} {xs : Nat → Int} {q : Nat} {x : Int} {M : Mm} (h0 : 0 ≤ x) (h6 : x + 6 ≤ n) (h3 : n ≤ 3072) (h : E_902 M (fun (r : Int) (M1 : Mm) => E_1011 M1 (fun (b : Int) (M2 : Mm) => r = b ∧ Lw n xs q (x + 6) M2))) (o5 o6 : Option Vv) : Wl n xs (q + 1) 292 [some (.inr (.inr (51, 0))), some (.inr (.inr (9, 0))), some (.inr (.inr (10, 0))), some (.inr (.inr (50, 0))), some (.inl x), o5, o6] [] M := by
  have up : ∀ {pc : Nat} {l : Ls} {st : List Vv} {M : Mm}, Wl n xs q pc l st M → Wl n xs (q + 1) pc l st M := fun ⟨q', M', a, b⟩ => ⟨q', M', by omega, b⟩
  apply up
  refine Wl.path (k := 1) [] (C := []) (pc' := 293) (ls' := [some (.inr (.inr (51, 0))), some (.inr (.inr (9, 0))), some (.inr (.inr (10, 0))), some (.inr (.inr (50, 0))), some (.inl x), o5, o6]) (st' := [.inr (.inr (9, 0))]) (M' := M) rfl trivial ?_
  refine Wl.call h rfl rfl (by decide) ?_
  rintro _ M1 ⟨r, rfl, h⟩
  show Wl n xs q 296 [some (.inr (.inr (51, 0))), some (.inr (.inr (9, 0))), some (.inr (.inr (10, 0))), some (.inr (.inr (50, 0))), some (.inl x), o5, o6] [.inl r] M1
  refine Wl.path (k := 1) [] (C := []) (pc' := 297) (ls' := [some (.inr (.inr (51, 0))), some (.inr (.inr (9, 0))), some (.inr (.inr (10, 0))), some (.inr (.inr (50, 0))), some (.inl x), o5, o6]) (st' := [.inr (.inr (10, 0)), .inl r]) (M' := M1) rfl trivial ?_
  refine Wl.call h rfl rfl (by decide) ?_
  rintro _ M2 ⟨b, rfl, h⟩
  show Wl n xs q 300 [some (.inr (.inr (51, 0))), some (.inr (.inr (9, 0))), some (.inr (.inr (10, 0))), some (.inr (.inr (50, 0))), some (.inl x), o5, o6] [.inl b, .inl r] M2
  refine Wl.path (k := 3) [1] (C := [r = b, inR (x + 6)]) (pc' := 23) (ls' := [some (.inr (.inr (51, 0))), some (.inr (.inr (9, 0))), some (.inr (.inr (10, 0))), some (.inr (.inr (50, 0))), some (.inl (x + 6)), o5, o6]) (st' := []) (M' := M2) rfl ⟨h.1, (by unfold inR; omega : inR (x + 6))⟩ ?_
  exact h.2 _ _
theorem lc_2 {n : Nat} {xs : Nat → Int} {q : Nat} {x : Int} {M : Mm} (h0 : 0 ≤ x) (h6 : x + 6 ≤ n) (h3 : n ≤ 3072) (h : W_1201 (xs (x + 1).toNat) M (fun (r : Int) (M1 : Mm) => E_1016 (xs (x + 1).toNat) M1 (fun (b : Int) (M2 : Mm) => M2.1 10 0 0 = r ∧ (r = 0 → M2.2 50 0 0 = (Int32.ofInt b).toInt64) ∧ Lw n xs q (x + 6) M2))) (o5 o6 : Option Vv) : Wl n xs (q + 1) 305 [some (.inr (.inr (51, 0))), some (.inr (.inr (9, 0))), some (.inr (.inr (10, 0))), some (.inr (.inr (50, 0))), some (.inl x), o5, o6] [] M := by
  refine Wl.path (k := 7) [] (C := [inR (x + 1), 0 ≤ x + 1 ∧ x + 1 < (n : Int)]) (pc' := 313) (ls' := [some (.inr (.inr (51, 0))), some (.inr (.inr (9, 0))), some (.inr (.inr (10, 0))), some (.inr (.inr (50, 0))), some (.inl x), o5, o6]) (st' := [.inr (.inr (50, 0)), .inl (xs (x + 1).toNat), .inr (.inr (9, 0))]) (M' := M) rfl ⟨(by unfold inR; omega : inR (x + 1)), (by omega : 0 ≤ x + 1 ∧ x + 1 < (n : Int))⟩ ?_
  refine Wl.callw h rfl rfl (by decide) ?_
  rintro _ M1 ⟨r, rfl, h⟩
  show Wl n xs q 316 [some (.inr (.inr (51, 0))), some (.inr (.inr (9, 0))), some (.inr (.inr (10, 0))), some (.inr (.inr (50, 0))), some (.inl x), o5, o6] [.inl r] M1
  refine Wl.path (k := 7) [] (C := [inR (x + 1), 0 ≤ x + 1 ∧ x + 1 < (n : Int)]) (pc' := 325) (ls' := [some (.inr (.inr (51, 0))), some (.inr (.inr (9, 0))), some (.inr (.inr (10, 0))), some (.inr (.inr (50, 0))), some (.inl x), some (.inl r), o6]) (st' := [.inl (xs (x + 1).toNat), .inr (.inr (10, 0))]) (M' := M1) rfl ⟨(by unfold inR; omega : inR (x + 1)), (by omega : 0 ≤ x + 1 ∧ x + 1 < (n : Int))⟩ ?_
  refine Wl.call h rfl rfl (by decide) ?_
  rintro _ M2 ⟨b, rfl, h⟩
  show Wl n xs q 328 [some (.inr (.inr (51, 0))), some (.inr (.inr (9, 0))), some (.inr (.inr (10, 0))), some (.inr (.inr (50, 0))), some (.inl x), some (.inl r), o6] [.inl b] M2
  refine Wl.path (k := 2) [] (C := []) (pc' := 331) (ls' := [some (.inr (.inr (51, 0))), some (.inr (.inr (9, 0))), some (.inr (.inr (10, 0))), some (.inr (.inr (50, 0))), some (.inl x), some (.inl r), some (.inl b)]) (st' := [.inr (.inr (10, 0))]) (M' := M2) rfl trivial ?_
  refine Wl.call e1001 rfl rfl (by decide) ?_
  rintro _ _ ⟨rfl, rfl⟩
  rename_i M2
  show Wl n xs q 334 [some (.inr (.inr (51, 0))), some (.inr (.inr (9, 0))), some (.inr (.inr (10, 0))), some (.inr (.inr (50, 0))), some (.inl x), some (.inl r), some (.inl b)] [.inl (M2.1 10 0 0)] M2
  refine Wl.path (k := 2) [1] (C := [M2.1 10 0 0 = r]) (pc' := 341) (ls' := [some (.inr (.inr (51, 0))), some (.inr (.inr (9, 0))), some (.inr (.inr (10, 0))), some (.inr (.inr (50, 0))), some (.inl x), some (.inl r), some (.inl b)]) (st' := []) (M' := M2) rfl (h.1) ?_
  rcases Decidable.em (r = 0) with c | c
  · refine Wl.path (k := 9) [0, 1] (C := [r = 0, (0 : Int) ≤ 0 ∧ (0 : Int) < (1 : Nat), lcm (M2.2 50 0 0) ((Int32.ofInt b).toInt64) = 0]) (pc' := 358) (ls' := [some (.inr (.inr (51, 0))), some (.inr (.inr (9, 0))), some (.inr (.inr (10, 0))), some (.inr (.inr (50, 0))), some (.inl x), some (.inl r), some (.inl b)]) (st' := []) (M' := M2) rfl ⟨c, ⟨by decide, by decide⟩, (lcm_p _ _).mpr (h.2.1 c)⟩ ?_
    refine Wl.path (k := 3) [] (C := [inR (x + 6)]) (pc' := 23) (ls' := [some (.inr (.inr (51, 0))), some (.inr (.inr (9, 0))), some (.inr (.inr (10, 0))), some (.inr (.inr (50, 0))), some (.inl (x + 6)), some (.inl r), some (.inl b)]) (st' := []) (M' := M2) rfl (by unfold inR; omega : inR (x + 6)) ?_
    exact h.2.2 _ _
  · refine Wl.path (k := 2) [1] (C := [r ≠ 0]) (pc' := 358) (ls' := [some (.inr (.inr (51, 0))), some (.inr (.inr (9, 0))), some (.inr (.inr (10, 0))), some (.inr (.inr (50, 0))), some (.inl x), some (.inl r), some (.inl b)]) (st' := []) (M' := M2) rfl (c) ?_
    refine Wl.path (k := 3) [] (C := [inR (x + 6)]) (pc' := 23) (ls' := [some (.inr (.inr (51, 0))), some (.inr (.inr (9, 0))), some (.inr (.inr (10, 0))), some (.inr (.inr (50, 0))), some (.inl (x + 6)), some (.inl r), some (.inl b)]) (st' := []) (M' := M2) rfl (by unfold inR; omega : inR (x + 6)) ?_
    exact h.2.2 _ _
theorem lc_3 {n : Nat} {xs : Nat → Int} {q : Nat} {x : Int} {M : Mm} (h0 : 0 ≤ x) (h6 : x + 6 ≤ n) (h3 : n ≤ 3072) (h : W_1202 M (fun (r : Int) (M1 : Mm) => E_1022 M1 (fun (b : Int) (M2 : Mm) => M2.1 10 0 0 = r ∧ (r = 0 → M2.2 50 0 0 = (Int32.ofInt b).toInt64) ∧ Lw n xs q (x + 6) M2))) (o5 o6 : Option Vv) : Wl n xs (q + 1) 361 [some (.inr (.inr (51, 0))), some (.inr (.inr (9, 0))), some (.inr (.inr (10, 0))), some (.inr (.inr (50, 0))), some (.inl x), o5, o6] [] M := by
  refine Wl.path (k := 2) [] (C := []) (pc' := 363) (ls' := [some (.inr (.inr (51, 0))), some (.inr (.inr (9, 0))), some (.inr (.inr (10, 0))), some (.inr (.inr (50, 0))), some (.inl x), o5, o6]) (st' := [.inr (.inr (50, 0)), .inr (.inr (9, 0))]) (M' := M) rfl trivial ?_
  refine Wl.callw h rfl rfl (by decide) ?_
  rintro _ M1 ⟨r, rfl, h⟩
  show Wl n xs q 366 [some (.inr (.inr (51, 0))), some (.inr (.inr (9, 0))), some (.inr (.inr (10, 0))), some (.inr (.inr (50, 0))), some (.inl x), o5, o6] [.inl r] M1
  refine Wl.path (k := 2) [] (C := []) (pc' := 369) (ls' := [some (.inr (.inr (51, 0))), some (.inr (.inr (9, 0))), some (.inr (.inr (10, 0))), some (.inr (.inr (50, 0))), some (.inl x), some (.inl r), o6]) (st' := [.inr (.inr (10, 0))]) (M' := M1) rfl trivial ?_
  refine Wl.call h rfl rfl (by decide) ?_
  rintro _ M2 ⟨b, rfl, h⟩
  show Wl n xs q 372 [some (.inr (.inr (51, 0))), some (.inr (.inr (9, 0))), some (.inr (.inr (10, 0))), some (.inr (.inr (50, 0))), some (.inl x), some (.inl r), o6] [.inl b] M2
  refine Wl.path (k := 2) [] (C := []) (pc' := 375) (ls' := [some (.inr (.inr (51, 0))), some (.inr (.inr (9, 0))), some (.inr (.inr (10, 0))), some (.inr (.inr (50, 0))), some (.inl x), some (.inl r), some (.inl b)]) (st' := [.inr (.inr (10, 0))]) (M' := M2) rfl trivial ?_
  refine Wl.call e1001 rfl rfl (by decide) ?_
  rintro _ _ ⟨rfl, rfl⟩
  rename_i M2
  show Wl n xs q 378 [some (.inr (.inr (51, 0))), some (.inr (.inr (9, 0))), some (.inr (.inr (10, 0))), some (.inr (.inr (50, 0))), some (.inl x), some (.inl r), some (.inl b)] [.inl (M2.1 10 0 0)] M2
  refine Wl.path (k := 2) [1] (C := [M2.1 10 0 0 = r]) (pc' := 385) (ls' := [some (.inr (.inr (51, 0))), some (.inr (.inr (9, 0))), some (.inr (.inr (10, 0))), some (.inr (.inr (50, 0))), some (.inl x), some (.inl r), some (.inl b)]) (st' := []) (M' := M2) rfl (h.1) ?_
  rcases Decidable.em (r = 0) with c | c
  · refine Wl.path (k := 9) [0, 1] (C := [r = 0, (0 : Int) ≤ 0 ∧ (0 : Int) < (1 : Nat), lcm (M2.2 50 0 0) ((Int32.ofInt b).toInt64) = 0]) (pc' := 402) (ls' := [some (.inr (.inr (51, 0))), some (.inr (.inr (9, 0))), some (.inr (.inr (10, 0))), some (.inr (.inr (50, 0))), some (.inl x), some (.inl r), some (.inl b)]) (st' := []) (M' := M2) rfl ⟨c, ⟨by decide, by decide⟩, (lcm_p _ _).mpr (h.2.1 c)⟩ ?_
    refine Wl.path (k := 3) [] (C := [inR (x + 6)]) (pc' := 23) (ls' := [some (.inr (.inr (51, 0))), some (.inr (.inr (9, 0))), some (.inr (.inr (10, 0))), some (.inr (.inr (50, 0))), some (.inl (x + 6)), some (.inl r), some (.inl b)]) (st' := []) (M' := M2) rfl (by unfold inR; omega : inR (x + 6)) ?_
    exact h.2.2 _ _
  · refine Wl.path (k := 2) [1] (C := [r ≠ 0]) (pc' := 402) (ls' := [some (.inr (.inr (51, 0))), some (.inr (.inr (9, 0))), some (.inr (.inr (10, 0))), some (.inr (.inr (50, 0))), some (.inl x), some (.inl r), some (.inl b)]) (st' := []) (M' := M2) rfl (c) ?_
    refine Wl.path (k := 3) [] (C := [inR (x + 6)]) (pc' := 23) (ls' := [some (.inr (.inr (51, 0))), some (.inr (.inr (9, 0))), some (.inr (.inr (10, 0))), some (.inr (.inr (50, 0))), some (.inl (x + 6)), some (.inl r), some (.inl b)]) (st' := []) (M' := M2) rfl (by unfold inR; omega : inR (x + 6)) ?_
    exact h.2.2 _ _
theorem lc_4 {n : Nat} {xs : Nat → Int} {q : Nat} {x : Int} {M : Mm} (h0 : 0 ≤ x) (h6 : x + 6 ≤ n) (h3 : n ≤ 3072) (h : E_905 M (fun (r : Int) (M1 : Mm) => E_1023 M1 (fun (b : Int) (M2 : Mm) => r = b ∧ Lw n xs q (x + 6) M2))) (o5 o6 : Option Vv) : Wl n xs (q + 1) 405 [some (.inr (.inr (51, 0))), some (.inr (.inr (9, 0))), some (.inr (.inr (10, 0))), some (.inr (.inr (50, 0))), some (.inl x), o5, o6] [] M := by
  have up : ∀ {pc : Nat} {l : Ls} {st : List Vv} {M : Mm}, Wl n xs q pc l st M → Wl n xs (q + 1) pc l st M := fun ⟨q', M', a, b⟩ => ⟨q', M', by omega, b⟩
  apply up
  refine Wl.path (k := 1) [] (C := []) (pc' := 406) (ls' := [some (.inr (.inr (51, 0))), some (.inr (.inr (9, 0))), some (.inr (.inr (10, 0))), some (.inr (.inr (50, 0))), some (.inl x), o5, o6]) (st' := [.inr (.inr (9, 0))]) (M' := M) rfl trivial ?_
  refine Wl.call h rfl rfl (by decide) ?_
  rintro _ M1 ⟨r, rfl, h⟩
  show Wl n xs q 409 [some (.inr (.inr (51, 0))), some (.inr (.inr (9, 0))), some (.inr (.inr (10, 0))), some (.inr (.inr (50, 0))), some (.inl x), o5, o6] [.inl r] M1
  refine Wl.path (k := 1) [] (C := []) (pc' := 410) (ls' := [some (.inr (.inr (51, 0))), some (.inr (.inr (9, 0))), some (.inr (.inr (10, 0))), some (.inr (.inr (50, 0))), some (.inl x), o5, o6]) (st' := [.inr (.inr (10, 0)), .inl r]) (M' := M1) rfl trivial ?_
  refine Wl.call h rfl rfl (by decide) ?_
  rintro _ M2 ⟨b, rfl, h⟩
  show Wl n xs q 413 [some (.inr (.inr (51, 0))), some (.inr (.inr (9, 0))), some (.inr (.inr (10, 0))), some (.inr (.inr (50, 0))), some (.inl x), o5, o6] [.inl b, .inl r] M2
  refine Wl.path (k := 3) [1] (C := [r = b, inR (x + 6)]) (pc' := 23) (ls' := [some (.inr (.inr (51, 0))), some (.inr (.inr (9, 0))), some (.inr (.inr (10, 0))), some (.inr (.inr (50, 0))), some (.inl (x + 6)), o5, o6]) (st' := []) (M' := M2) rfl ⟨h.1, (by unfold inR; omega : inR (x + 6))⟩ ?_
  exact h.2 _ _
theorem lc_5 {n : Nat} {xs : Nat → Int} {q : Nat} {x : Int} {M : Mm} (h0 : 0 ≤ x) (h6 : x + 6 ≤ n) (h3 : n ≤ 3072) (h : W_1203 M (fun (r : Int) (M1 : Mm) => E_1012 M1 (fun (b : Int) (M2 : Mm) => M2.1 10 0 0 = r ∧ (r = 0 → M2.2 50 0 0 = (Int32.ofInt b).toInt64) ∧ Lw n xs q (x + 6) M2))) (o5 o6 : Option Vv) : Wl n xs (q + 1) 418 [some (.inr (.inr (51, 0))), some (.inr (.inr (9, 0))), some (.inr (.inr (10, 0))), some (.inr (.inr (50, 0))), some (.inl x), o5, o6] [] M := by
  refine Wl.path (k := 2) [] (C := []) (pc' := 420) (ls' := [some (.inr (.inr (51, 0))), some (.inr (.inr (9, 0))), some (.inr (.inr (10, 0))), some (.inr (.inr (50, 0))), some (.inl x), o5, o6]) (st' := [.inr (.inr (50, 0)), .inr (.inr (9, 0))]) (M' := M) rfl trivial ?_
  refine Wl.callw h rfl rfl (by decide) ?_
  rintro _ M1 ⟨r, rfl, h⟩
  show Wl n xs q 423 [some (.inr (.inr (51, 0))), some (.inr (.inr (9, 0))), some (.inr (.inr (10, 0))), some (.inr (.inr (50, 0))), some (.inl x), o5, o6] [.inl r] M1
  refine Wl.path (k := 2) [] (C := []) (pc' := 426) (ls' := [some (.inr (.inr (51, 0))), some (.inr (.inr (9, 0))), some (.inr (.inr (10, 0))), some (.inr (.inr (50, 0))), some (.inl x), some (.inl r), o6]) (st' := [.inr (.inr (10, 0))]) (M' := M1) rfl trivial ?_
  refine Wl.call h rfl rfl (by decide) ?_
  rintro _ M2 ⟨b, rfl, h⟩
  show Wl n xs q 429 [some (.inr (.inr (51, 0))), some (.inr (.inr (9, 0))), some (.inr (.inr (10, 0))), some (.inr (.inr (50, 0))), some (.inl x), some (.inl r), o6] [.inl b] M2
  refine Wl.path (k := 2) [] (C := []) (pc' := 432) (ls' := [some (.inr (.inr (51, 0))), some (.inr (.inr (9, 0))), some (.inr (.inr (10, 0))), some (.inr (.inr (50, 0))), some (.inl x), some (.inl r), some (.inl b)]) (st' := [.inr (.inr (10, 0))]) (M' := M2) rfl trivial ?_
  refine Wl.call e1001 rfl rfl (by decide) ?_
  rintro _ _ ⟨rfl, rfl⟩
  rename_i M2
  show Wl n xs q 435 [some (.inr (.inr (51, 0))), some (.inr (.inr (9, 0))), some (.inr (.inr (10, 0))), some (.inr (.inr (50, 0))), some (.inl x), some (.inl r), some (.inl b)] [.inl (M2.1 10 0 0)] M2
  refine Wl.path (k := 2) [1] (C := [M2.1 10 0 0 = r]) (pc' := 442) (ls' := [some (.inr (.inr (51, 0))), some (.inr (.inr (9, 0))), some (.inr (.inr (10, 0))), some (.inr (.inr (50, 0))), some (.inl x), some (.inl r), some (.inl b)]) (st' := []) (M' := M2) rfl (h.1) ?_
  rcases Decidable.em (r = 0) with c | c
  · refine Wl.path (k := 9) [0, 1] (C := [r = 0, (0 : Int) ≤ 0 ∧ (0 : Int) < (1 : Nat), lcm (M2.2 50 0 0) ((Int32.ofInt b).toInt64) = 0]) (pc' := 459) (ls' := [some (.inr (.inr (51, 0))), some (.inr (.inr (9, 0))), some (.inr (.inr (10, 0))), some (.inr (.inr (50, 0))), some (.inl x), some (.inl r), some (.inl b)]) (st' := []) (M' := M2) rfl ⟨c, ⟨by decide, by decide⟩, (lcm_p _ _).mpr (h.2.1 c)⟩ ?_
    refine Wl.path (k := 3) [] (C := [inR (x + 6)]) (pc' := 23) (ls' := [some (.inr (.inr (51, 0))), some (.inr (.inr (9, 0))), some (.inr (.inr (10, 0))), some (.inr (.inr (50, 0))), some (.inl (x + 6)), some (.inl r), some (.inl b)]) (st' := []) (M' := M2) rfl (by unfold inR; omega : inR (x + 6)) ?_
    exact h.2.2 _ _
  · refine Wl.path (k := 2) [1] (C := [r ≠ 0]) (pc' := 459) (ls' := [some (.inr (.inr (51, 0))), some (.inr (.inr (9, 0))), some (.inr (.inr (10, 0))), some (.inr (.inr (50, 0))), some (.inl x), some (.inl r), some (.inl b)]) (st' := []) (M' := M2) rfl (c) ?_
    refine Wl.path (k := 3) [] (C := [inR (x + 6)]) (pc' := 23) (ls' := [some (.inr (.inr (51, 0))), some (.inr (.inr (9, 0))), some (.inr (.inr (10, 0))), some (.inr (.inr (50, 0))), some (.inl (x + 6)), some (.inl r), some (.inl b)]) (st' := []) (M' := M2) rfl (by unfold inR; omega : inR (x + 6)) ?_
    exact h.2.2 _ _
theorem lc_6 {n : Nat} {xs : Nat → Int} {q : Nat} {x : Int} {M : Mm} (h0 : 0 ≤ x) (h6 : x + 6 ≤ n) (h3 : n ≤ 3072) (h : W_1204 M (fun (r : Int) (M1 : Mm) => E_1013 M1 (fun (b : Int) (M2 : Mm) => M2.1 10 0 0 = r ∧ (r = 0 → M2.2 50 0 0 = (Int32.ofInt b).toInt64) ∧ Lw n xs q (x + 6) M2))) (o5 o6 : Option Vv) : Wl n xs (q + 1) 462 [some (.inr (.inr (51, 0))), some (.inr (.inr (9, 0))), some (.inr (.inr (10, 0))), some (.inr (.inr (50, 0))), some (.inl x), o5, o6] [] M := by
  refine Wl.path (k := 2) [] (C := []) (pc' := 464) (ls' := [some (.inr (.inr (51, 0))), some (.inr (.inr (9, 0))), some (.inr (.inr (10, 0))), some (.inr (.inr (50, 0))), some (.inl x), o5, o6]) (st' := [.inr (.inr (50, 0)), .inr (.inr (9, 0))]) (M' := M) rfl trivial ?_
  refine Wl.callw h rfl rfl (by decide) ?_
  rintro _ M1 ⟨r, rfl, h⟩
  show Wl n xs q 467 [some (.inr (.inr (51, 0))), some (.inr (.inr (9, 0))), some (.inr (.inr (10, 0))), some (.inr (.inr (50, 0))), some (.inl x), o5, o6] [.inl r] M1
  refine Wl.path (k := 2) [] (C := []) (pc' := 470) (ls' := [some (.inr (.inr (51, 0))), some (.inr (.inr (9, 0))), some (.inr (.inr (10, 0))), some (.inr (.inr (50, 0))), some (.inl x), some (.inl r), o6]) (st' := [.inr (.inr (10, 0))]) (M' := M1) rfl trivial ?_
  refine Wl.call h rfl rfl (by decide) ?_
  rintro _ M2 ⟨b, rfl, h⟩
  show Wl n xs q 473 [some (.inr (.inr (51, 0))), some (.inr (.inr (9, 0))), some (.inr (.inr (10, 0))), some (.inr (.inr (50, 0))), some (.inl x), some (.inl r), o6] [.inl b] M2
  refine Wl.path (k := 2) [] (C := []) (pc' := 476) (ls' := [some (.inr (.inr (51, 0))), some (.inr (.inr (9, 0))), some (.inr (.inr (10, 0))), some (.inr (.inr (50, 0))), some (.inl x), some (.inl r), some (.inl b)]) (st' := [.inr (.inr (10, 0))]) (M' := M2) rfl trivial ?_
  refine Wl.call e1001 rfl rfl (by decide) ?_
  rintro _ _ ⟨rfl, rfl⟩
  rename_i M2
  show Wl n xs q 479 [some (.inr (.inr (51, 0))), some (.inr (.inr (9, 0))), some (.inr (.inr (10, 0))), some (.inr (.inr (50, 0))), some (.inl x), some (.inl r), some (.inl b)] [.inl (M2.1 10 0 0)] M2
  refine Wl.path (k := 2) [1] (C := [M2.1 10 0 0 = r]) (pc' := 486) (ls' := [some (.inr (.inr (51, 0))), some (.inr (.inr (9, 0))), some (.inr (.inr (10, 0))), some (.inr (.inr (50, 0))), some (.inl x), some (.inl r), some (.inl b)]) (st' := []) (M' := M2) rfl (h.1) ?_
  rcases Decidable.em (r = 0) with c | c
  · refine Wl.path (k := 9) [0, 1] (C := [r = 0, (0 : Int) ≤ 0 ∧ (0 : Int) < (1 : Nat), lcm (M2.2 50 0 0) ((Int32.ofInt b).toInt64) = 0]) (pc' := 503) (ls' := [some (.inr (.inr (51, 0))), some (.inr (.inr (9, 0))), some (.inr (.inr (10, 0))), some (.inr (.inr (50, 0))), some (.inl x), some (.inl r), some (.inl b)]) (st' := []) (M' := M2) rfl ⟨c, ⟨by decide, by decide⟩, (lcm_p _ _).mpr (h.2.1 c)⟩ ?_
    refine Wl.path (k := 3) [] (C := [inR (x + 6)]) (pc' := 23) (ls' := [some (.inr (.inr (51, 0))), some (.inr (.inr (9, 0))), some (.inr (.inr (10, 0))), some (.inr (.inr (50, 0))), some (.inl (x + 6)), some (.inl r), some (.inl b)]) (st' := []) (M' := M2) rfl (by unfold inR; omega : inR (x + 6)) ?_
    exact h.2.2 _ _
  · refine Wl.path (k := 2) [1] (C := [r ≠ 0]) (pc' := 503) (ls' := [some (.inr (.inr (51, 0))), some (.inr (.inr (9, 0))), some (.inr (.inr (10, 0))), some (.inr (.inr (50, 0))), some (.inl x), some (.inl r), some (.inl b)]) (st' := []) (M' := M2) rfl (c) ?_
    refine Wl.path (k := 3) [] (C := [inR (x + 6)]) (pc' := 23) (ls' := [some (.inr (.inr (51, 0))), some (.inr (.inr (9, 0))), some (.inr (.inr (10, 0))), some (.inr (.inr (50, 0))), some (.inl (x + 6)), some (.inl r), some (.inl b)]) (st' := []) (M' := M2) rfl (by unfold inR; omega : inR (x + 6)) ?_
    exact h.2.2 _ _
theorem lc_7 {n : Nat} {xs : Nat → Int} {q : Nat} {x : Int} {M : Mm} (h0 : 0 ≤ x) (h6 : x + 6 ≤ n) (h3 : n ≤ 3072) (h : E_908 M (fun (r : Int) (M1 : Mm) => E_1014 M1 (fun (b : Int) (M2 : Mm) => r = b ∧ Lw n xs q (x + 6) M2))) (o5 o6 : Option Vv) : Wl n xs (q + 1) 506 [some (.inr (.inr (51, 0))), some (.inr (.inr (9, 0))), some (.inr (.inr (10, 0))), some (.inr (.inr (50, 0))), some (.inl x), o5, o6] [] M := by
  have up : ∀ {pc : Nat} {l : Ls} {st : List Vv} {M : Mm}, Wl n xs q pc l st M → Wl n xs (q + 1) pc l st M := fun ⟨q', M', a, b⟩ => ⟨q', M', by omega, b⟩
  apply up
  refine Wl.path (k := 1) [] (C := []) (pc' := 507) (ls' := [some (.inr (.inr (51, 0))), some (.inr (.inr (9, 0))), some (.inr (.inr (10, 0))), some (.inr (.inr (50, 0))), some (.inl x), o5, o6]) (st' := [.inr (.inr (9, 0))]) (M' := M) rfl trivial ?_
  refine Wl.call h rfl rfl (by decide) ?_
  rintro _ M1 ⟨r, rfl, h⟩
  show Wl n xs q 510 [some (.inr (.inr (51, 0))), some (.inr (.inr (9, 0))), some (.inr (.inr (10, 0))), some (.inr (.inr (50, 0))), some (.inl x), o5, o6] [.inl r] M1
  refine Wl.path (k := 1) [] (C := []) (pc' := 511) (ls' := [some (.inr (.inr (51, 0))), some (.inr (.inr (9, 0))), some (.inr (.inr (10, 0))), some (.inr (.inr (50, 0))), some (.inl x), o5, o6]) (st' := [.inr (.inr (10, 0)), .inl r]) (M' := M1) rfl trivial ?_
  refine Wl.call h rfl rfl (by decide) ?_
  rintro _ M2 ⟨b, rfl, h⟩
  show Wl n xs q 514 [some (.inr (.inr (51, 0))), some (.inr (.inr (9, 0))), some (.inr (.inr (10, 0))), some (.inr (.inr (50, 0))), some (.inl x), o5, o6] [.inl b, .inl r] M2
  refine Wl.path (k := 3) [1] (C := [r = b, inR (x + 6)]) (pc' := 23) (ls' := [some (.inr (.inr (51, 0))), some (.inr (.inr (9, 0))), some (.inr (.inr (10, 0))), some (.inr (.inr (50, 0))), some (.inl (x + 6)), o5, o6]) (st' := []) (M' := M2) rfl ⟨h.1, (by unfold inR; omega : inR (x + 6))⟩ ?_
  exact h.2 _ _
theorem lc_8 {n : Nat} {xs : Nat → Int} {q : Nat} {x : Int} {M : Mm} (h0 : 0 ≤ x) (h6 : x + 6 ≤ n) (h3 : n ≤ 3072) (h : W_1205 M (fun (r : Int) (M1 : Mm) => E_1015 M1 (fun (b : Int) (M2 : Mm) => M2.1 10 0 0 = r ∧ (r = 0 → M2.2 50 0 0 = (Int32.ofInt b).toInt64) ∧ Lw n xs q (x + 6) M2))) (o5 o6 : Option Vv) : Wl n xs (q + 1) 519 [some (.inr (.inr (51, 0))), some (.inr (.inr (9, 0))), some (.inr (.inr (10, 0))), some (.inr (.inr (50, 0))), some (.inl x), o5, o6] [] M := by
  refine Wl.path (k := 2) [] (C := []) (pc' := 521) (ls' := [some (.inr (.inr (51, 0))), some (.inr (.inr (9, 0))), some (.inr (.inr (10, 0))), some (.inr (.inr (50, 0))), some (.inl x), o5, o6]) (st' := [.inr (.inr (50, 0)), .inr (.inr (9, 0))]) (M' := M) rfl trivial ?_
  refine Wl.callw h rfl rfl (by decide) ?_
  rintro _ M1 ⟨r, rfl, h⟩
  show Wl n xs q 524 [some (.inr (.inr (51, 0))), some (.inr (.inr (9, 0))), some (.inr (.inr (10, 0))), some (.inr (.inr (50, 0))), some (.inl x), o5, o6] [.inl r] M1
  refine Wl.path (k := 2) [] (C := []) (pc' := 527) (ls' := [some (.inr (.inr (51, 0))), some (.inr (.inr (9, 0))), some (.inr (.inr (10, 0))), some (.inr (.inr (50, 0))), some (.inl x), some (.inl r), o6]) (st' := [.inr (.inr (10, 0))]) (M' := M1) rfl trivial ?_
  refine Wl.call h rfl rfl (by decide) ?_
  rintro _ M2 ⟨b, rfl, h⟩
  show Wl n xs q 530 [some (.inr (.inr (51, 0))), some (.inr (.inr (9, 0))), some (.inr (.inr (10, 0))), some (.inr (.inr (50, 0))), some (.inl x), some (.inl r), o6] [.inl b] M2
  refine Wl.path (k := 2) [] (C := []) (pc' := 533) (ls' := [some (.inr (.inr (51, 0))), some (.inr (.inr (9, 0))), some (.inr (.inr (10, 0))), some (.inr (.inr (50, 0))), some (.inl x), some (.inl r), some (.inl b)]) (st' := [.inr (.inr (10, 0))]) (M' := M2) rfl trivial ?_
  refine Wl.call e1001 rfl rfl (by decide) ?_
  rintro _ _ ⟨rfl, rfl⟩
  rename_i M2
  show Wl n xs q 536 [some (.inr (.inr (51, 0))), some (.inr (.inr (9, 0))), some (.inr (.inr (10, 0))), some (.inr (.inr (50, 0))), some (.inl x), some (.inl r), some (.inl b)] [.inl (M2.1 10 0 0)] M2
  refine Wl.path (k := 2) [1] (C := [M2.1 10 0 0 = r]) (pc' := 543) (ls' := [some (.inr (.inr (51, 0))), some (.inr (.inr (9, 0))), some (.inr (.inr (10, 0))), some (.inr (.inr (50, 0))), some (.inl x), some (.inl r), some (.inl b)]) (st' := []) (M' := M2) rfl (h.1) ?_
  rcases Decidable.em (r = 0) with c | c
  · refine Wl.path (k := 9) [0, 1] (C := [r = 0, (0 : Int) ≤ 0 ∧ (0 : Int) < (1 : Nat), lcm (M2.2 50 0 0) ((Int32.ofInt b).toInt64) = 0]) (pc' := 560) (ls' := [some (.inr (.inr (51, 0))), some (.inr (.inr (9, 0))), some (.inr (.inr (10, 0))), some (.inr (.inr (50, 0))), some (.inl x), some (.inl r), some (.inl b)]) (st' := []) (M' := M2) rfl ⟨c, ⟨by decide, by decide⟩, (lcm_p _ _).mpr (h.2.1 c)⟩ ?_
    refine Wl.path (k := 3) [] (C := [inR (x + 6)]) (pc' := 23) (ls' := [some (.inr (.inr (51, 0))), some (.inr (.inr (9, 0))), some (.inr (.inr (10, 0))), some (.inr (.inr (50, 0))), some (.inl (x + 6)), some (.inl r), some (.inl b)]) (st' := []) (M' := M2) rfl (by unfold inR; omega : inR (x + 6)) ?_
    exact h.2.2 _ _
  · refine Wl.path (k := 2) [1] (C := [r ≠ 0]) (pc' := 560) (ls' := [some (.inr (.inr (51, 0))), some (.inr (.inr (9, 0))), some (.inr (.inr (10, 0))), some (.inr (.inr (50, 0))), some (.inl x), some (.inl r), some (.inl b)]) (st' := []) (M' := M2) rfl (c) ?_
    refine Wl.path (k := 3) [] (C := [inR (x + 6)]) (pc' := 23) (ls' := [some (.inr (.inr (51, 0))), some (.inr (.inr (9, 0))), some (.inr (.inr (10, 0))), some (.inr (.inr (50, 0))), some (.inl (x + 6)), some (.inl r), some (.inl b)]) (st' := []) (M' := M2) rfl (by unfold inR; omega : inR (x + 6)) ?_
    exact h.2.2 _ _
theorem lc_9 {n : Nat} {xs : Nat → Int} {q : Nat} {x : Int} {M : Mm} (h0 : 0 ≤ x) (h6 : x + 6 ≤ n) (h3 : n ≤ 3072) (h : W_1206 (xs (x + 1).toNat) (xs (x + 2).toNat) M (fun (r : Int) (M1 : Mm) => E_1024 (xs (x + 1).toNat) (xs (x + 2).toNat) M1 (fun (b : Int) (M2 : Mm) => M2.1 10 0 0 = r ∧ (r = 0 → M2.2 50 0 0 = (if b = 0 then Int64.ofNat 0 else Int64.ofNat 1)) ∧ Lw n xs q (x + 6) M2))) (o5 o6 : Option Vv) : Wl n xs (q + 1) 563 [some (.inr (.inr (51, 0))), some (.inr (.inr (9, 0))), some (.inr (.inr (10, 0))), some (.inr (.inr (50, 0))), some (.inl x), o5, o6] [] M := by
  refine Wl.path (k := 12) [] (C := [inR (x + 1), 0 ≤ x + 1 ∧ x + 1 < (n : Int), inR (x + 2), 0 ≤ x + 2 ∧ x + 2 < (n : Int)]) (pc' := 577) (ls' := [some (.inr (.inr (51, 0))), some (.inr (.inr (9, 0))), some (.inr (.inr (10, 0))), some (.inr (.inr (50, 0))), some (.inl x), o5, o6]) (st' := [.inr (.inr (50, 0)), .inl (xs (x + 2).toNat), .inl (xs (x + 1).toNat), .inr (.inr (9, 0))]) (M' := M) rfl ⟨(by unfold inR; omega : inR (x + 1)), (by omega : 0 ≤ x + 1 ∧ x + 1 < (n : Int)), (by unfold inR; omega : inR (x + 2)), (by omega : 0 ≤ x + 2 ∧ x + 2 < (n : Int))⟩ ?_
  refine Wl.callw h rfl rfl (by decide) ?_
  rintro _ M1 ⟨r, rfl, h⟩
  show Wl n xs q 580 [some (.inr (.inr (51, 0))), some (.inr (.inr (9, 0))), some (.inr (.inr (10, 0))), some (.inr (.inr (50, 0))), some (.inl x), o5, o6] [.inl r] M1
  refine Wl.path (k := 12) [] (C := [inR (x + 1), 0 ≤ x + 1 ∧ x + 1 < (n : Int), inR (x + 2), 0 ≤ x + 2 ∧ x + 2 < (n : Int)]) (pc' := 595) (ls' := [some (.inr (.inr (51, 0))), some (.inr (.inr (9, 0))), some (.inr (.inr (10, 0))), some (.inr (.inr (50, 0))), some (.inl x), some (.inl r), o6]) (st' := [.inl (xs (x + 2).toNat), .inl (xs (x + 1).toNat), .inr (.inr (10, 0))]) (M' := M1) rfl ⟨(by unfold inR; omega : inR (x + 1)), (by omega : 0 ≤ x + 1 ∧ x + 1 < (n : Int)), (by unfold inR; omega : inR (x + 2)), (by omega : 0 ≤ x + 2 ∧ x + 2 < (n : Int))⟩ ?_
  refine Wl.call h rfl rfl (by decide) ?_
  rintro _ M2 ⟨b, rfl, h⟩
  show Wl n xs q 598 [some (.inr (.inr (51, 0))), some (.inr (.inr (9, 0))), some (.inr (.inr (10, 0))), some (.inr (.inr (50, 0))), some (.inl x), some (.inl r), o6] [.inl b] M2
  refine Wl.path (k := 2) [] (C := []) (pc' := 601) (ls' := [some (.inr (.inr (51, 0))), some (.inr (.inr (9, 0))), some (.inr (.inr (10, 0))), some (.inr (.inr (50, 0))), some (.inl x), some (.inl r), some (.inl b)]) (st' := [.inr (.inr (10, 0))]) (M' := M2) rfl trivial ?_
  refine Wl.call e1001 rfl rfl (by decide) ?_
  rintro _ _ ⟨rfl, rfl⟩
  rename_i M2
  show Wl n xs q 604 [some (.inr (.inr (51, 0))), some (.inr (.inr (9, 0))), some (.inr (.inr (10, 0))), some (.inr (.inr (50, 0))), some (.inl x), some (.inl r), some (.inl b)] [.inl (M2.1 10 0 0)] M2
  refine Wl.path (k := 2) [1] (C := [M2.1 10 0 0 = r]) (pc' := 611) (ls' := [some (.inr (.inr (51, 0))), some (.inr (.inr (9, 0))), some (.inr (.inr (10, 0))), some (.inr (.inr (50, 0))), some (.inl x), some (.inl r), some (.inl b)]) (st' := []) (M' := M2) rfl (h.1) ?_
  rcases Decidable.em (r = 0) with c | c
  · have h2 := h.2.1 c
    rcases Decidable.em (b = 0) with cb | cb
    · rw [if_pos cb] at h2
      refine Wl.path (k := 10) [0, 1, 1] (C := [r = 0, (0 : Int) ≤ 0 ∧ (0 : Int) < (1 : Nat), b = 0, lcm (M2.2 50 0 0) (Int64.ofNat 0) = 0]) (pc' := 635) (ls' := [some (.inr (.inr (51, 0))), some (.inr (.inr (9, 0))), some (.inr (.inr (10, 0))), some (.inr (.inr (50, 0))), some (.inl x), some (.inl r), some (.inl b)]) (st' := []) (M' := M2) rfl ⟨c, ⟨by decide, by decide⟩, cb, (lcm_p _ _).mpr h2⟩ ?_
      refine Wl.path (k := 3) [] (C := [inR (x + 6)]) (pc' := 23) (ls' := [some (.inr (.inr (51, 0))), some (.inr (.inr (9, 0))), some (.inr (.inr (10, 0))), some (.inr (.inr (50, 0))), some (.inl (x + 6)), some (.inl r), some (.inl b)]) (st' := []) (M' := M2) rfl (by unfold inR; omega : inR (x + 6)) ?_
      exact h.2.2 _ _
    · rw [if_neg cb] at h2
      refine Wl.path (k := 11) [0, 0, 1] (C := [r = 0, (0 : Int) ≤ 0 ∧ (0 : Int) < (1 : Nat), b ≠ 0, lcm (M2.2 50 0 0) (Int64.ofNat 1) = 0]) (pc' := 635) (ls' := [some (.inr (.inr (51, 0))), some (.inr (.inr (9, 0))), some (.inr (.inr (10, 0))), some (.inr (.inr (50, 0))), some (.inl x), some (.inl r), some (.inl b)]) (st' := []) (M' := M2) rfl ⟨c, ⟨by decide, by decide⟩, cb, (lcm_p _ _).mpr h2⟩ ?_
      refine Wl.path (k := 3) [] (C := [inR (x + 6)]) (pc' := 23) (ls' := [some (.inr (.inr (51, 0))), some (.inr (.inr (9, 0))), some (.inr (.inr (10, 0))), some (.inr (.inr (50, 0))), some (.inl (x + 6)), some (.inl r), some (.inl b)]) (st' := []) (M' := M2) rfl (by unfold inR; omega : inR (x + 6)) ?_
      exact h.2.2 _ _
  · refine Wl.path (k := 2) [1] (C := [r ≠ 0]) (pc' := 635) (ls' := [some (.inr (.inr (51, 0))), some (.inr (.inr (9, 0))), some (.inr (.inr (10, 0))), some (.inr (.inr (50, 0))), some (.inl x), some (.inl r), some (.inl b)]) (st' := []) (M' := M2) rfl (c) ?_
    refine Wl.path (k := 3) [] (C := [inR (x + 6)]) (pc' := 23) (ls' := [some (.inr (.inr (51, 0))), some (.inr (.inr (9, 0))), some (.inr (.inr (10, 0))), some (.inr (.inr (50, 0))), some (.inl (x + 6)), some (.inl r), some (.inl b)]) (st' := []) (M' := M2) rfl (by unfold inR; omega : inR (x + 6)) ?_
    exact h.2.2 _ _
theorem lc_10 {n : Nat} {xs : Nat → Int} {q : Nat} {x : Int} {M : Mm} (h0 : 0 ≤ x) (h6 : x + 6 ≤ n) (h3 : n ≤ 3072) (h : E_911 M (fun (r : Int) (M1 : Mm) => E_1051 M1 (fun (b : Int) (M2 : Mm) => r = b ∧ Lw n xs q (x + 6) M2))) (o5 o6 : Option Vv) : Wl n xs (q + 1) 638 [some (.inr (.inr (51, 0))), some (.inr (.inr (9, 0))), some (.inr (.inr (10, 0))), some (.inr (.inr (50, 0))), some (.inl x), o5, o6] [] M := by
  have up : ∀ {pc : Nat} {l : Ls} {st : List Vv} {M : Mm}, Wl n xs q pc l st M → Wl n xs (q + 1) pc l st M := fun ⟨q', M', a, b⟩ => ⟨q', M', by omega, b⟩
  apply up
  refine Wl.path (k := 1) [] (C := []) (pc' := 639) (ls' := [some (.inr (.inr (51, 0))), some (.inr (.inr (9, 0))), some (.inr (.inr (10, 0))), some (.inr (.inr (50, 0))), some (.inl x), o5, o6]) (st' := [.inr (.inr (9, 0))]) (M' := M) rfl trivial ?_
  refine Wl.call h rfl rfl (by decide) ?_
  rintro _ M1 ⟨r, rfl, h⟩
  show Wl n xs q 642 [some (.inr (.inr (51, 0))), some (.inr (.inr (9, 0))), some (.inr (.inr (10, 0))), some (.inr (.inr (50, 0))), some (.inl x), o5, o6] [.inl r] M1
  refine Wl.path (k := 1) [] (C := []) (pc' := 643) (ls' := [some (.inr (.inr (51, 0))), some (.inr (.inr (9, 0))), some (.inr (.inr (10, 0))), some (.inr (.inr (50, 0))), some (.inl x), o5, o6]) (st' := [.inr (.inr (10, 0)), .inl r]) (M' := M1) rfl trivial ?_
  refine Wl.call h rfl rfl (by decide) ?_
  rintro _ M2 ⟨b, rfl, h⟩
  show Wl n xs q 646 [some (.inr (.inr (51, 0))), some (.inr (.inr (9, 0))), some (.inr (.inr (10, 0))), some (.inr (.inr (50, 0))), some (.inl x), o5, o6] [.inl b, .inl r] M2
  refine Wl.path (k := 3) [1] (C := [r = b, inR (x + 6)]) (pc' := 23) (ls' := [some (.inr (.inr (51, 0))), some (.inr (.inr (9, 0))), some (.inr (.inr (10, 0))), some (.inr (.inr (50, 0))), some (.inl (x + 6)), o5, o6]) (st' := []) (M' := M2) rfl ⟨h.1, (by unfold inR; omega : inR (x + 6))⟩ ?_
  exact h.2 _ _
theorem lc_11 {n : Nat} {xs : Nat → Int} {q : Nat} {x : Int} {M : Mm} (h0 : 0 ≤ x) (h6 : x + 6 ≤ n) (h3 : n ≤ 3072) (h : W_1207 (xs (x + 1).toNat) (xs (x + 2).toNat) M (fun (r : Int) (M1 : Mm) => E_1052 (xs (x + 1).toNat) (xs (x + 2).toNat) M1 (fun (b : Int) (M2 : Mm) => M2.1 10 0 0 = r ∧ (r = 0 → M2.2 50 0 0 = (Int32.ofInt b).toInt64) ∧ Lw n xs q (x + 6) M2))) (o5 o6 : Option Vv) : Wl n xs (q + 1) 651 [some (.inr (.inr (51, 0))), some (.inr (.inr (9, 0))), some (.inr (.inr (10, 0))), some (.inr (.inr (50, 0))), some (.inl x), o5, o6] [] M := by
  refine Wl.path (k := 12) [] (C := [inR (x + 1), 0 ≤ x + 1 ∧ x + 1 < (n : Int), inR (x + 2), 0 ≤ x + 2 ∧ x + 2 < (n : Int)]) (pc' := 665) (ls' := [some (.inr (.inr (51, 0))), some (.inr (.inr (9, 0))), some (.inr (.inr (10, 0))), some (.inr (.inr (50, 0))), some (.inl x), o5, o6]) (st' := [.inr (.inr (50, 0)), .inl (xs (x + 2).toNat), .inl (xs (x + 1).toNat), .inr (.inr (9, 0))]) (M' := M) rfl ⟨(by unfold inR; omega : inR (x + 1)), (by omega : 0 ≤ x + 1 ∧ x + 1 < (n : Int)), (by unfold inR; omega : inR (x + 2)), (by omega : 0 ≤ x + 2 ∧ x + 2 < (n : Int))⟩ ?_
  refine Wl.callw h rfl rfl (by decide) ?_
  rintro _ M1 ⟨r, rfl, h⟩
  show Wl n xs q 668 [some (.inr (.inr (51, 0))), some (.inr (.inr (9, 0))), some (.inr (.inr (10, 0))), some (.inr (.inr (50, 0))), some (.inl x), o5, o6] [.inl r] M1
  refine Wl.path (k := 12) [] (C := [inR (x + 1), 0 ≤ x + 1 ∧ x + 1 < (n : Int), inR (x + 2), 0 ≤ x + 2 ∧ x + 2 < (n : Int)]) (pc' := 683) (ls' := [some (.inr (.inr (51, 0))), some (.inr (.inr (9, 0))), some (.inr (.inr (10, 0))), some (.inr (.inr (50, 0))), some (.inl x), some (.inl r), o6]) (st' := [.inl (xs (x + 2).toNat), .inl (xs (x + 1).toNat), .inr (.inr (10, 0))]) (M' := M1) rfl ⟨(by unfold inR; omega : inR (x + 1)), (by omega : 0 ≤ x + 1 ∧ x + 1 < (n : Int)), (by unfold inR; omega : inR (x + 2)), (by omega : 0 ≤ x + 2 ∧ x + 2 < (n : Int))⟩ ?_
  refine Wl.call h rfl rfl (by decide) ?_
  rintro _ M2 ⟨b, rfl, h⟩
  show Wl n xs q 686 [some (.inr (.inr (51, 0))), some (.inr (.inr (9, 0))), some (.inr (.inr (10, 0))), some (.inr (.inr (50, 0))), some (.inl x), some (.inl r), o6] [.inl b] M2
  refine Wl.path (k := 2) [] (C := []) (pc' := 689) (ls' := [some (.inr (.inr (51, 0))), some (.inr (.inr (9, 0))), some (.inr (.inr (10, 0))), some (.inr (.inr (50, 0))), some (.inl x), some (.inl r), some (.inl b)]) (st' := [.inr (.inr (10, 0))]) (M' := M2) rfl trivial ?_
  refine Wl.call e1001 rfl rfl (by decide) ?_
  rintro _ _ ⟨rfl, rfl⟩
  rename_i M2
  show Wl n xs q 692 [some (.inr (.inr (51, 0))), some (.inr (.inr (9, 0))), some (.inr (.inr (10, 0))), some (.inr (.inr (50, 0))), some (.inl x), some (.inl r), some (.inl b)] [.inl (M2.1 10 0 0)] M2
  refine Wl.path (k := 2) [1] (C := [M2.1 10 0 0 = r]) (pc' := 699) (ls' := [some (.inr (.inr (51, 0))), some (.inr (.inr (9, 0))), some (.inr (.inr (10, 0))), some (.inr (.inr (50, 0))), some (.inl x), some (.inl r), some (.inl b)]) (st' := []) (M' := M2) rfl (h.1) ?_
  rcases Decidable.em (r = 0) with c | c
  · refine Wl.path (k := 9) [0, 1] (C := [r = 0, (0 : Int) ≤ 0 ∧ (0 : Int) < (1 : Nat), lcm (M2.2 50 0 0) ((Int32.ofInt b).toInt64) = 0]) (pc' := 716) (ls' := [some (.inr (.inr (51, 0))), some (.inr (.inr (9, 0))), some (.inr (.inr (10, 0))), some (.inr (.inr (50, 0))), some (.inl x), some (.inl r), some (.inl b)]) (st' := []) (M' := M2) rfl ⟨c, ⟨by decide, by decide⟩, (lcm_p _ _).mpr (h.2.1 c)⟩ ?_
    refine Wl.path (k := 3) [] (C := [inR (x + 6)]) (pc' := 23) (ls' := [some (.inr (.inr (51, 0))), some (.inr (.inr (9, 0))), some (.inr (.inr (10, 0))), some (.inr (.inr (50, 0))), some (.inl (x + 6)), some (.inl r), some (.inl b)]) (st' := []) (M' := M2) rfl (by unfold inR; omega : inR (x + 6)) ?_
    exact h.2.2 _ _
  · refine Wl.path (k := 2) [1] (C := [r ≠ 0]) (pc' := 716) (ls' := [some (.inr (.inr (51, 0))), some (.inr (.inr (9, 0))), some (.inr (.inr (10, 0))), some (.inr (.inr (50, 0))), some (.inl x), some (.inl r), some (.inl b)]) (st' := []) (M' := M2) rfl (c) ?_
    refine Wl.path (k := 3) [] (C := [inR (x + 6)]) (pc' := 23) (ls' := [some (.inr (.inr (51, 0))), some (.inr (.inr (9, 0))), some (.inr (.inr (10, 0))), some (.inr (.inr (50, 0))), some (.inl (x + 6)), some (.inl r), some (.inl b)]) (st' := []) (M' := M2) rfl (by unfold inR; omega : inR (x + 6)) ?_
    exact h.2.2 _ _
theorem lc_12 {n : Nat} {xs : Nat → Int} {q : Nat} {x : Int} {M : Mm} (h0 : 0 ≤ x) (h6 : x + 6 ≤ n) (h3 : n ≤ 3072) (h : E_913 M (fun (r : Int) (M1 : Mm) => E_1053 M1 (fun (b : Int) (M2 : Mm) => r = b ∧ Lw n xs q (x + 6) M2))) (o5 o6 : Option Vv) : Wl n xs (q + 1) 719 [some (.inr (.inr (51, 0))), some (.inr (.inr (9, 0))), some (.inr (.inr (10, 0))), some (.inr (.inr (50, 0))), some (.inl x), o5, o6] [] M := by
  have up : ∀ {pc : Nat} {l : Ls} {st : List Vv} {M : Mm}, Wl n xs q pc l st M → Wl n xs (q + 1) pc l st M := fun ⟨q', M', a, b⟩ => ⟨q', M', by omega, b⟩
  apply up
  refine Wl.path (k := 1) [] (C := []) (pc' := 720) (ls' := [some (.inr (.inr (51, 0))), some (.inr (.inr (9, 0))), some (.inr (.inr (10, 0))), some (.inr (.inr (50, 0))), some (.inl x), o5, o6]) (st' := [.inr (.inr (9, 0))]) (M' := M) rfl trivial ?_
  refine Wl.call h rfl rfl (by decide) ?_
  rintro _ M1 ⟨r, rfl, h⟩
  show Wl n xs q 723 [some (.inr (.inr (51, 0))), some (.inr (.inr (9, 0))), some (.inr (.inr (10, 0))), some (.inr (.inr (50, 0))), some (.inl x), o5, o6] [.inl r] M1
  refine Wl.path (k := 1) [] (C := []) (pc' := 724) (ls' := [some (.inr (.inr (51, 0))), some (.inr (.inr (9, 0))), some (.inr (.inr (10, 0))), some (.inr (.inr (50, 0))), some (.inl x), o5, o6]) (st' := [.inr (.inr (10, 0)), .inl r]) (M' := M1) rfl trivial ?_
  refine Wl.call h rfl rfl (by decide) ?_
  rintro _ M2 ⟨b, rfl, h⟩
  show Wl n xs q 727 [some (.inr (.inr (51, 0))), some (.inr (.inr (9, 0))), some (.inr (.inr (10, 0))), some (.inr (.inr (50, 0))), some (.inl x), o5, o6] [.inl b, .inl r] M2
  refine Wl.path (k := 3) [1] (C := [r = b, inR (x + 6)]) (pc' := 23) (ls' := [some (.inr (.inr (51, 0))), some (.inr (.inr (9, 0))), some (.inr (.inr (10, 0))), some (.inr (.inr (50, 0))), some (.inl (x + 6)), o5, o6]) (st' := []) (M' := M2) rfl ⟨h.1, (by unfold inR; omega : inR (x + 6))⟩ ?_
  exact h.2 _ _
theorem lc_13 {n : Nat} {xs : Nat → Int} {q : Nat} {x : Int} {M : Mm} (h0 : 0 ≤ x) (h6 : x + 6 ≤ n) (h3 : n ≤ 3072) (h : E_914 M (fun (r : Int) (M1 : Mm) => E_1056 M1 (fun (b : Int) (M2 : Mm) => r = b ∧ Lw n xs q (x + 6) M2))) (o5 o6 : Option Vv) : Wl n xs (q + 1) 732 [some (.inr (.inr (51, 0))), some (.inr (.inr (9, 0))), some (.inr (.inr (10, 0))), some (.inr (.inr (50, 0))), some (.inl x), o5, o6] [] M := by
  have up : ∀ {pc : Nat} {l : Ls} {st : List Vv} {M : Mm}, Wl n xs q pc l st M → Wl n xs (q + 1) pc l st M := fun ⟨q', M', a, b⟩ => ⟨q', M', by omega, b⟩
  apply up
  refine Wl.path (k := 1) [] (C := []) (pc' := 733) (ls' := [some (.inr (.inr (51, 0))), some (.inr (.inr (9, 0))), some (.inr (.inr (10, 0))), some (.inr (.inr (50, 0))), some (.inl x), o5, o6]) (st' := [.inr (.inr (9, 0))]) (M' := M) rfl trivial ?_
  refine Wl.call h rfl rfl (by decide) ?_
  rintro _ M1 ⟨r, rfl, h⟩
  show Wl n xs q 736 [some (.inr (.inr (51, 0))), some (.inr (.inr (9, 0))), some (.inr (.inr (10, 0))), some (.inr (.inr (50, 0))), some (.inl x), o5, o6] [.inl r] M1
  refine Wl.path (k := 1) [] (C := []) (pc' := 737) (ls' := [some (.inr (.inr (51, 0))), some (.inr (.inr (9, 0))), some (.inr (.inr (10, 0))), some (.inr (.inr (50, 0))), some (.inl x), o5, o6]) (st' := [.inr (.inr (10, 0)), .inl r]) (M' := M1) rfl trivial ?_
  refine Wl.call h rfl rfl (by decide) ?_
  rintro _ M2 ⟨b, rfl, h⟩
  show Wl n xs q 740 [some (.inr (.inr (51, 0))), some (.inr (.inr (9, 0))), some (.inr (.inr (10, 0))), some (.inr (.inr (50, 0))), some (.inl x), o5, o6] [.inl b, .inl r] M2
  refine Wl.path (k := 3) [1] (C := [r = b, inR (x + 6)]) (pc' := 23) (ls' := [some (.inr (.inr (51, 0))), some (.inr (.inr (9, 0))), some (.inr (.inr (10, 0))), some (.inr (.inr (50, 0))), some (.inl (x + 6)), o5, o6]) (st' := []) (M' := M2) rfl ⟨h.1, (by unfold inR; omega : inR (x + 6))⟩ ?_
  exact h.2 _ _
theorem lc_14 {n : Nat} {xs : Nat → Int} {q : Nat} {x : Int} {M : Mm} (h0 : 0 ≤ x) (h6 : x + 6 ≤ n) (h3 : n ≤ 3072) (h : W_1208 (xs (x + 1).toNat) (xs (x + 2).toNat) M (fun (r : Int) (M1 : Mm) => E_1057 (xs (x + 1).toNat) (xs (x + 2).toNat) M1 (fun (b : Int) (M2 : Mm) => M2.1 10 0 0 = r ∧ (r = 0 → M2.2 50 0 0 = (Int32.ofInt b).toInt64) ∧ Lw n xs q (x + 6) M2))) (o5 o6 : Option Vv) : Wl n xs (q + 1) 745 [some (.inr (.inr (51, 0))), some (.inr (.inr (9, 0))), some (.inr (.inr (10, 0))), some (.inr (.inr (50, 0))), some (.inl x), o5, o6] [] M := by
  refine Wl.path (k := 12) [] (C := [inR (x + 1), 0 ≤ x + 1 ∧ x + 1 < (n : Int), inR (x + 2), 0 ≤ x + 2 ∧ x + 2 < (n : Int)]) (pc' := 759) (ls' := [some (.inr (.inr (51, 0))), some (.inr (.inr (9, 0))), some (.inr (.inr (10, 0))), some (.inr (.inr (50, 0))), some (.inl x), o5, o6]) (st' := [.inr (.inr (50, 0)), .inl (xs (x + 2).toNat), .inl (xs (x + 1).toNat), .inr (.inr (9, 0))]) (M' := M) rfl ⟨(by unfold inR; omega : inR (x + 1)), (by omega : 0 ≤ x + 1 ∧ x + 1 < (n : Int)), (by unfold inR; omega : inR (x + 2)), (by omega : 0 ≤ x + 2 ∧ x + 2 < (n : Int))⟩ ?_
  refine Wl.callw h rfl rfl (by decide) ?_
  rintro _ M1 ⟨r, rfl, h⟩
  show Wl n xs q 762 [some (.inr (.inr (51, 0))), some (.inr (.inr (9, 0))), some (.inr (.inr (10, 0))), some (.inr (.inr (50, 0))), some (.inl x), o5, o6] [.inl r] M1
  refine Wl.path (k := 12) [] (C := [inR (x + 1), 0 ≤ x + 1 ∧ x + 1 < (n : Int), inR (x + 2), 0 ≤ x + 2 ∧ x + 2 < (n : Int)]) (pc' := 777) (ls' := [some (.inr (.inr (51, 0))), some (.inr (.inr (9, 0))), some (.inr (.inr (10, 0))), some (.inr (.inr (50, 0))), some (.inl x), some (.inl r), o6]) (st' := [.inl (xs (x + 2).toNat), .inl (xs (x + 1).toNat), .inr (.inr (10, 0))]) (M' := M1) rfl ⟨(by unfold inR; omega : inR (x + 1)), (by omega : 0 ≤ x + 1 ∧ x + 1 < (n : Int)), (by unfold inR; omega : inR (x + 2)), (by omega : 0 ≤ x + 2 ∧ x + 2 < (n : Int))⟩ ?_
  refine Wl.call h rfl rfl (by decide) ?_
  rintro _ M2 ⟨b, rfl, h⟩
  show Wl n xs q 780 [some (.inr (.inr (51, 0))), some (.inr (.inr (9, 0))), some (.inr (.inr (10, 0))), some (.inr (.inr (50, 0))), some (.inl x), some (.inl r), o6] [.inl b] M2
  refine Wl.path (k := 2) [] (C := []) (pc' := 783) (ls' := [some (.inr (.inr (51, 0))), some (.inr (.inr (9, 0))), some (.inr (.inr (10, 0))), some (.inr (.inr (50, 0))), some (.inl x), some (.inl r), some (.inl b)]) (st' := [.inr (.inr (10, 0))]) (M' := M2) rfl trivial ?_
  refine Wl.call e1001 rfl rfl (by decide) ?_
  rintro _ _ ⟨rfl, rfl⟩
  rename_i M2
  show Wl n xs q 786 [some (.inr (.inr (51, 0))), some (.inr (.inr (9, 0))), some (.inr (.inr (10, 0))), some (.inr (.inr (50, 0))), some (.inl x), some (.inl r), some (.inl b)] [.inl (M2.1 10 0 0)] M2
  refine Wl.path (k := 2) [1] (C := [M2.1 10 0 0 = r]) (pc' := 793) (ls' := [some (.inr (.inr (51, 0))), some (.inr (.inr (9, 0))), some (.inr (.inr (10, 0))), some (.inr (.inr (50, 0))), some (.inl x), some (.inl r), some (.inl b)]) (st' := []) (M' := M2) rfl (h.1) ?_
  rcases Decidable.em (r = 0) with c | c
  · refine Wl.path (k := 9) [0, 1] (C := [r = 0, (0 : Int) ≤ 0 ∧ (0 : Int) < (1 : Nat), lcm (M2.2 50 0 0) ((Int32.ofInt b).toInt64) = 0]) (pc' := 810) (ls' := [some (.inr (.inr (51, 0))), some (.inr (.inr (9, 0))), some (.inr (.inr (10, 0))), some (.inr (.inr (50, 0))), some (.inl x), some (.inl r), some (.inl b)]) (st' := []) (M' := M2) rfl ⟨c, ⟨by decide, by decide⟩, (lcm_p _ _).mpr (h.2.1 c)⟩ ?_
    refine Wl.path (k := 3) [] (C := [inR (x + 6)]) (pc' := 23) (ls' := [some (.inr (.inr (51, 0))), some (.inr (.inr (9, 0))), some (.inr (.inr (10, 0))), some (.inr (.inr (50, 0))), some (.inl (x + 6)), some (.inl r), some (.inl b)]) (st' := []) (M' := M2) rfl (by unfold inR; omega : inR (x + 6)) ?_
    exact h.2.2 _ _
  · refine Wl.path (k := 2) [1] (C := [r ≠ 0]) (pc' := 810) (ls' := [some (.inr (.inr (51, 0))), some (.inr (.inr (9, 0))), some (.inr (.inr (10, 0))), some (.inr (.inr (50, 0))), some (.inl x), some (.inl r), some (.inl b)]) (st' := []) (M' := M2) rfl (c) ?_
    refine Wl.path (k := 3) [] (C := [inR (x + 6)]) (pc' := 23) (ls' := [some (.inr (.inr (51, 0))), some (.inr (.inr (9, 0))), some (.inr (.inr (10, 0))), some (.inr (.inr (50, 0))), some (.inl (x + 6)), some (.inl r), some (.inl b)]) (st' := []) (M' := M2) rfl (by unfold inR; omega : inR (x + 6)) ?_
    exact h.2.2 _ _
theorem lc_15 {n : Nat} {xs : Nat → Int} {q : Nat} {x : Int} {M : Mm} (h0 : 0 ≤ x) (h6 : x + 6 ≤ n) (h3 : n ≤ 3072) (h : E_916 M (fun (r : Int) (M1 : Mm) => E_1061 M1 (fun (b : Int) (M2 : Mm) => r = b ∧ Lw n xs q (x + 6) M2))) (o5 o6 : Option Vv) : Wl n xs (q + 1) 813 [some (.inr (.inr (51, 0))), some (.inr (.inr (9, 0))), some (.inr (.inr (10, 0))), some (.inr (.inr (50, 0))), some (.inl x), o5, o6] [] M := by
  have up : ∀ {pc : Nat} {l : Ls} {st : List Vv} {M : Mm}, Wl n xs q pc l st M → Wl n xs (q + 1) pc l st M := fun ⟨q', M', a, b⟩ => ⟨q', M', by omega, b⟩
  apply up
  refine Wl.path (k := 1) [] (C := []) (pc' := 814) (ls' := [some (.inr (.inr (51, 0))), some (.inr (.inr (9, 0))), some (.inr (.inr (10, 0))), some (.inr (.inr (50, 0))), some (.inl x), o5, o6]) (st' := [.inr (.inr (9, 0))]) (M' := M) rfl trivial ?_
  refine Wl.call h rfl rfl (by decide) ?_
  rintro _ M1 ⟨r, rfl, h⟩
  show Wl n xs q 817 [some (.inr (.inr (51, 0))), some (.inr (.inr (9, 0))), some (.inr (.inr (10, 0))), some (.inr (.inr (50, 0))), some (.inl x), o5, o6] [.inl r] M1
  refine Wl.path (k := 1) [] (C := []) (pc' := 818) (ls' := [some (.inr (.inr (51, 0))), some (.inr (.inr (9, 0))), some (.inr (.inr (10, 0))), some (.inr (.inr (50, 0))), some (.inl x), o5, o6]) (st' := [.inr (.inr (10, 0)), .inl r]) (M' := M1) rfl trivial ?_
  refine Wl.call h rfl rfl (by decide) ?_
  rintro _ M2 ⟨b, rfl, h⟩
  show Wl n xs q 821 [some (.inr (.inr (51, 0))), some (.inr (.inr (9, 0))), some (.inr (.inr (10, 0))), some (.inr (.inr (50, 0))), some (.inl x), o5, o6] [.inl b, .inl r] M2
  refine Wl.path (k := 3) [1] (C := [r = b, inR (x + 6)]) (pc' := 23) (ls' := [some (.inr (.inr (51, 0))), some (.inr (.inr (9, 0))), some (.inr (.inr (10, 0))), some (.inr (.inr (50, 0))), some (.inl (x + 6)), o5, o6]) (st' := []) (M' := M2) rfl ⟨h.1, (by unfold inR; omega : inR (x + 6))⟩ ?_
  exact h.2 _ _
theorem lc_16 {n : Nat} {xs : Nat → Int} {q : Nat} {x : Int} {M : Mm} (h0 : 0 ≤ x) (h6 : x + 6 ≤ n) (h3 : n ≤ 3072) (h : W_1209 (xs (x + 1).toNat) (xs (x + 2).toNat) M (fun (r : Int) (M1 : Mm) => E_1062 (xs (x + 1).toNat) (xs (x + 2).toNat) M1 (fun (b : Int) (M2 : Mm) => M2.1 10 0 0 = r ∧ (r = 0 → M2.2 50 0 0 = (Int32.ofInt b).toInt64) ∧ Lw n xs q (x + 6) M2))) (o5 o6 : Option Vv) : Wl n xs (q + 1) 826 [some (.inr (.inr (51, 0))), some (.inr (.inr (9, 0))), some (.inr (.inr (10, 0))), some (.inr (.inr (50, 0))), some (.inl x), o5, o6] [] M := by
  refine Wl.path (k := 12) [] (C := [inR (x + 1), 0 ≤ x + 1 ∧ x + 1 < (n : Int), inR (x + 2), 0 ≤ x + 2 ∧ x + 2 < (n : Int)]) (pc' := 840) (ls' := [some (.inr (.inr (51, 0))), some (.inr (.inr (9, 0))), some (.inr (.inr (10, 0))), some (.inr (.inr (50, 0))), some (.inl x), o5, o6]) (st' := [.inr (.inr (50, 0)), .inl (xs (x + 2).toNat), .inl (xs (x + 1).toNat), .inr (.inr (9, 0))]) (M' := M) rfl ⟨(by unfold inR; omega : inR (x + 1)), (by omega : 0 ≤ x + 1 ∧ x + 1 < (n : Int)), (by unfold inR; omega : inR (x + 2)), (by omega : 0 ≤ x + 2 ∧ x + 2 < (n : Int))⟩ ?_
  refine Wl.callw h rfl rfl (by decide) ?_
  rintro _ M1 ⟨r, rfl, h⟩
  show Wl n xs q 843 [some (.inr (.inr (51, 0))), some (.inr (.inr (9, 0))), some (.inr (.inr (10, 0))), some (.inr (.inr (50, 0))), some (.inl x), o5, o6] [.inl r] M1
  refine Wl.path (k := 12) [] (C := [inR (x + 1), 0 ≤ x + 1 ∧ x + 1 < (n : Int), inR (x + 2), 0 ≤ x + 2 ∧ x + 2 < (n : Int)]) (pc' := 858) (ls' := [some (.inr (.inr (51, 0))), some (.inr (.inr (9, 0))), some (.inr (.inr (10, 0))), some (.inr (.inr (50, 0))), some (.inl x), some (.inl r), o6]) (st' := [.inl (xs (x + 2).toNat), .inl (xs (x + 1).toNat), .inr (.inr (10, 0))]) (M' := M1) rfl ⟨(by unfold inR; omega : inR (x + 1)), (by omega : 0 ≤ x + 1 ∧ x + 1 < (n : Int)), (by unfold inR; omega : inR (x + 2)), (by omega : 0 ≤ x + 2 ∧ x + 2 < (n : Int))⟩ ?_
  refine Wl.call h rfl rfl (by decide) ?_
  rintro _ M2 ⟨b, rfl, h⟩
  show Wl n xs q 861 [some (.inr (.inr (51, 0))), some (.inr (.inr (9, 0))), some (.inr (.inr (10, 0))), some (.inr (.inr (50, 0))), some (.inl x), some (.inl r), o6] [.inl b] M2
  refine Wl.path (k := 2) [] (C := []) (pc' := 864) (ls' := [some (.inr (.inr (51, 0))), some (.inr (.inr (9, 0))), some (.inr (.inr (10, 0))), some (.inr (.inr (50, 0))), some (.inl x), some (.inl r), some (.inl b)]) (st' := [.inr (.inr (10, 0))]) (M' := M2) rfl trivial ?_
  refine Wl.call e1001 rfl rfl (by decide) ?_
  rintro _ _ ⟨rfl, rfl⟩
  rename_i M2
  show Wl n xs q 867 [some (.inr (.inr (51, 0))), some (.inr (.inr (9, 0))), some (.inr (.inr (10, 0))), some (.inr (.inr (50, 0))), some (.inl x), some (.inl r), some (.inl b)] [.inl (M2.1 10 0 0)] M2
  refine Wl.path (k := 2) [1] (C := [M2.1 10 0 0 = r]) (pc' := 874) (ls' := [some (.inr (.inr (51, 0))), some (.inr (.inr (9, 0))), some (.inr (.inr (10, 0))), some (.inr (.inr (50, 0))), some (.inl x), some (.inl r), some (.inl b)]) (st' := []) (M' := M2) rfl (h.1) ?_
  rcases Decidable.em (r = 0) with c | c
  · refine Wl.path (k := 9) [0, 1] (C := [r = 0, (0 : Int) ≤ 0 ∧ (0 : Int) < (1 : Nat), lcm (M2.2 50 0 0) ((Int32.ofInt b).toInt64) = 0]) (pc' := 891) (ls' := [some (.inr (.inr (51, 0))), some (.inr (.inr (9, 0))), some (.inr (.inr (10, 0))), some (.inr (.inr (50, 0))), some (.inl x), some (.inl r), some (.inl b)]) (st' := []) (M' := M2) rfl ⟨c, ⟨by decide, by decide⟩, (lcm_p _ _).mpr (h.2.1 c)⟩ ?_
    refine Wl.path (k := 3) [] (C := [inR (x + 6)]) (pc' := 23) (ls' := [some (.inr (.inr (51, 0))), some (.inr (.inr (9, 0))), some (.inr (.inr (10, 0))), some (.inr (.inr (50, 0))), some (.inl (x + 6)), some (.inl r), some (.inl b)]) (st' := []) (M' := M2) rfl (by unfold inR; omega : inR (x + 6)) ?_
    exact h.2.2 _ _
  · refine Wl.path (k := 2) [1] (C := [r ≠ 0]) (pc' := 891) (ls' := [some (.inr (.inr (51, 0))), some (.inr (.inr (9, 0))), some (.inr (.inr (10, 0))), some (.inr (.inr (50, 0))), some (.inl x), some (.inl r), some (.inl b)]) (st' := []) (M' := M2) rfl (c) ?_
    refine Wl.path (k := 3) [] (C := [inR (x + 6)]) (pc' := 23) (ls' := [some (.inr (.inr (51, 0))), some (.inr (.inr (9, 0))), some (.inr (.inr (10, 0))), some (.inr (.inr (50, 0))), some (.inl (x + 6)), some (.inl r), some (.inl b)]) (st' := []) (M' := M2) rfl (by unfold inR; omega : inR (x + 6)) ?_
    exact h.2.2 _ _
theorem lc_17 {n : Nat} {xs : Nat → Int} {q : Nat} {x : Int} {M : Mm} (h0 : 0 ≤ x) (h6 : x + 6 ≤ n) (h3 : n ≤ 3072) (h : W_1210 (xs (x + 1).toNat) (xs (x + 2).toNat) M (fun (r : Int) (M1 : Mm) => E_1063 (xs (x + 1).toNat) (xs (x + 2).toNat) M1 (fun (b : Int) (M2 : Mm) => M2.1 10 0 0 = r ∧ (r = 0 → M2.2 50 0 0 = (Int32.ofInt b).toInt64) ∧ Lw n xs q (x + 6) M2))) (o5 o6 : Option Vv) : Wl n xs (q + 1) 894 [some (.inr (.inr (51, 0))), some (.inr (.inr (9, 0))), some (.inr (.inr (10, 0))), some (.inr (.inr (50, 0))), some (.inl x), o5, o6] [] M := by
  refine Wl.path (k := 12) [] (C := [inR (x + 1), 0 ≤ x + 1 ∧ x + 1 < (n : Int), inR (x + 2), 0 ≤ x + 2 ∧ x + 2 < (n : Int)]) (pc' := 908) (ls' := [some (.inr (.inr (51, 0))), some (.inr (.inr (9, 0))), some (.inr (.inr (10, 0))), some (.inr (.inr (50, 0))), some (.inl x), o5, o6]) (st' := [.inr (.inr (50, 0)), .inl (xs (x + 2).toNat), .inl (xs (x + 1).toNat), .inr (.inr (9, 0))]) (M' := M) rfl ⟨(by unfold inR; omega : inR (x + 1)), (by omega : 0 ≤ x + 1 ∧ x + 1 < (n : Int)), (by unfold inR; omega : inR (x + 2)), (by omega : 0 ≤ x + 2 ∧ x + 2 < (n : Int))⟩ ?_
  refine Wl.callw h rfl rfl (by decide) ?_
  rintro _ M1 ⟨r, rfl, h⟩
  show Wl n xs q 911 [some (.inr (.inr (51, 0))), some (.inr (.inr (9, 0))), some (.inr (.inr (10, 0))), some (.inr (.inr (50, 0))), some (.inl x), o5, o6] [.inl r] M1
  refine Wl.path (k := 12) [] (C := [inR (x + 1), 0 ≤ x + 1 ∧ x + 1 < (n : Int), inR (x + 2), 0 ≤ x + 2 ∧ x + 2 < (n : Int)]) (pc' := 926) (ls' := [some (.inr (.inr (51, 0))), some (.inr (.inr (9, 0))), some (.inr (.inr (10, 0))), some (.inr (.inr (50, 0))), some (.inl x), some (.inl r), o6]) (st' := [.inl (xs (x + 2).toNat), .inl (xs (x + 1).toNat), .inr (.inr (10, 0))]) (M' := M1) rfl ⟨(by unfold inR; omega : inR (x + 1)), (by omega : 0 ≤ x + 1 ∧ x + 1 < (n : Int)), (by unfold inR; omega : inR (x + 2)), (by omega : 0 ≤ x + 2 ∧ x + 2 < (n : Int))⟩ ?_
  refine Wl.call h rfl rfl (by decide) ?_
  rintro _ M2 ⟨b, rfl, h⟩
  show Wl n xs q 929 [some (.inr (.inr (51, 0))), some (.inr (.inr (9, 0))), some (.inr (.inr (10, 0))), some (.inr (.inr (50, 0))), some (.inl x), some (.inl r), o6] [.inl b] M2
  refine Wl.path (k := 2) [] (C := []) (pc' := 932) (ls' := [some (.inr (.inr (51, 0))), some (.inr (.inr (9, 0))), some (.inr (.inr (10, 0))), some (.inr (.inr (50, 0))), some (.inl x), some (.inl r), some (.inl b)]) (st' := [.inr (.inr (10, 0))]) (M' := M2) rfl trivial ?_
  refine Wl.call e1001 rfl rfl (by decide) ?_
  rintro _ _ ⟨rfl, rfl⟩
  rename_i M2
  show Wl n xs q 935 [some (.inr (.inr (51, 0))), some (.inr (.inr (9, 0))), some (.inr (.inr (10, 0))), some (.inr (.inr (50, 0))), some (.inl x), some (.inl r), some (.inl b)] [.inl (M2.1 10 0 0)] M2
  refine Wl.path (k := 2) [1] (C := [M2.1 10 0 0 = r]) (pc' := 942) (ls' := [some (.inr (.inr (51, 0))), some (.inr (.inr (9, 0))), some (.inr (.inr (10, 0))), some (.inr (.inr (50, 0))), some (.inl x), some (.inl r), some (.inl b)]) (st' := []) (M' := M2) rfl (h.1) ?_
  rcases Decidable.em (r = 0) with c | c
  · refine Wl.path (k := 9) [0, 1] (C := [r = 0, (0 : Int) ≤ 0 ∧ (0 : Int) < (1 : Nat), lcm (M2.2 50 0 0) ((Int32.ofInt b).toInt64) = 0]) (pc' := 959) (ls' := [some (.inr (.inr (51, 0))), some (.inr (.inr (9, 0))), some (.inr (.inr (10, 0))), some (.inr (.inr (50, 0))), some (.inl x), some (.inl r), some (.inl b)]) (st' := []) (M' := M2) rfl ⟨c, ⟨by decide, by decide⟩, (lcm_p _ _).mpr (h.2.1 c)⟩ ?_
    refine Wl.path (k := 3) [] (C := [inR (x + 6)]) (pc' := 23) (ls' := [some (.inr (.inr (51, 0))), some (.inr (.inr (9, 0))), some (.inr (.inr (10, 0))), some (.inr (.inr (50, 0))), some (.inl (x + 6)), some (.inl r), some (.inl b)]) (st' := []) (M' := M2) rfl (by unfold inR; omega : inR (x + 6)) ?_
    exact h.2.2 _ _
  · refine Wl.path (k := 2) [1] (C := [r ≠ 0]) (pc' := 959) (ls' := [some (.inr (.inr (51, 0))), some (.inr (.inr (9, 0))), some (.inr (.inr (10, 0))), some (.inr (.inr (50, 0))), some (.inl x), some (.inl r), some (.inl b)]) (st' := []) (M' := M2) rfl (c) ?_
    refine Wl.path (k := 3) [] (C := [inR (x + 6)]) (pc' := 23) (ls' := [some (.inr (.inr (51, 0))), some (.inr (.inr (9, 0))), some (.inr (.inr (10, 0))), some (.inr (.inr (50, 0))), some (.inl (x + 6)), some (.inl r), some (.inl b)]) (st' := []) (M' := M2) rfl (by unfold inR; omega : inR (x + 6)) ?_
    exact h.2.2 _ _
theorem lc_18 {n : Nat} {xs : Nat → Int} {q : Nat} {x : Int} {M : Mm} (h0 : 0 ≤ x) (h6 : x + 6 ≤ n) (h3 : n ≤ 3072) (h : W_1211 (xs (x + 1).toNat) M (fun (r : Int) (M1 : Mm) => E_1064 (xs (x + 1).toNat) M1 (fun (b : Int) (M2 : Mm) => M2.1 10 0 0 = r ∧ (r = 0 → M2.2 50 0 0 = (Int32.ofInt b).toInt64) ∧ Lw n xs q (x + 6) M2))) (o5 o6 : Option Vv) : Wl n xs (q + 1) 962 [some (.inr (.inr (51, 0))), some (.inr (.inr (9, 0))), some (.inr (.inr (10, 0))), some (.inr (.inr (50, 0))), some (.inl x), o5, o6] [] M := by
  refine Wl.path (k := 7) [] (C := [inR (x + 1), 0 ≤ x + 1 ∧ x + 1 < (n : Int)]) (pc' := 970) (ls' := [some (.inr (.inr (51, 0))), some (.inr (.inr (9, 0))), some (.inr (.inr (10, 0))), some (.inr (.inr (50, 0))), some (.inl x), o5, o6]) (st' := [.inr (.inr (50, 0)), .inl (xs (x + 1).toNat), .inr (.inr (9, 0))]) (M' := M) rfl ⟨(by unfold inR; omega : inR (x + 1)), (by omega : 0 ≤ x + 1 ∧ x + 1 < (n : Int))⟩ ?_
  refine Wl.callw h rfl rfl (by decide) ?_
  rintro _ M1 ⟨r, rfl, h⟩
  show Wl n xs q 973 [some (.inr (.inr (51, 0))), some (.inr (.inr (9, 0))), some (.inr (.inr (10, 0))), some (.inr (.inr (50, 0))), some (.inl x), o5, o6] [.inl r] M1
  refine Wl.path (k := 7) [] (C := [inR (x + 1), 0 ≤ x + 1 ∧ x + 1 < (n : Int)]) (pc' := 982) (ls' := [some (.inr (.inr (51, 0))), some (.inr (.inr (9, 0))), some (.inr (.inr (10, 0))), some (.inr (.inr (50, 0))), some (.inl x), some (.inl r), o6]) (st' := [.inl (xs (x + 1).toNat), .inr (.inr (10, 0))]) (M' := M1) rfl ⟨(by unfold inR; omega : inR (x + 1)), (by omega : 0 ≤ x + 1 ∧ x + 1 < (n : Int))⟩ ?_
  refine Wl.call h rfl rfl (by decide) ?_
  rintro _ M2 ⟨b, rfl, h⟩
  show Wl n xs q 985 [some (.inr (.inr (51, 0))), some (.inr (.inr (9, 0))), some (.inr (.inr (10, 0))), some (.inr (.inr (50, 0))), some (.inl x), some (.inl r), o6] [.inl b] M2
  refine Wl.path (k := 2) [] (C := []) (pc' := 988) (ls' := [some (.inr (.inr (51, 0))), some (.inr (.inr (9, 0))), some (.inr (.inr (10, 0))), some (.inr (.inr (50, 0))), some (.inl x), some (.inl r), some (.inl b)]) (st' := [.inr (.inr (10, 0))]) (M' := M2) rfl trivial ?_
  refine Wl.call e1001 rfl rfl (by decide) ?_
  rintro _ _ ⟨rfl, rfl⟩
  rename_i M2
  show Wl n xs q 991 [some (.inr (.inr (51, 0))), some (.inr (.inr (9, 0))), some (.inr (.inr (10, 0))), some (.inr (.inr (50, 0))), some (.inl x), some (.inl r), some (.inl b)] [.inl (M2.1 10 0 0)] M2
  refine Wl.path (k := 2) [1] (C := [M2.1 10 0 0 = r]) (pc' := 998) (ls' := [some (.inr (.inr (51, 0))), some (.inr (.inr (9, 0))), some (.inr (.inr (10, 0))), some (.inr (.inr (50, 0))), some (.inl x), some (.inl r), some (.inl b)]) (st' := []) (M' := M2) rfl (h.1) ?_
  rcases Decidable.em (r = 0) with c | c
  · refine Wl.path (k := 9) [0, 1] (C := [r = 0, (0 : Int) ≤ 0 ∧ (0 : Int) < (1 : Nat), lcm (M2.2 50 0 0) ((Int32.ofInt b).toInt64) = 0]) (pc' := 1015) (ls' := [some (.inr (.inr (51, 0))), some (.inr (.inr (9, 0))), some (.inr (.inr (10, 0))), some (.inr (.inr (50, 0))), some (.inl x), some (.inl r), some (.inl b)]) (st' := []) (M' := M2) rfl ⟨c, ⟨by decide, by decide⟩, (lcm_p _ _).mpr (h.2.1 c)⟩ ?_
    refine Wl.path (k := 3) [] (C := [inR (x + 6)]) (pc' := 23) (ls' := [some (.inr (.inr (51, 0))), some (.inr (.inr (9, 0))), some (.inr (.inr (10, 0))), some (.inr (.inr (50, 0))), some (.inl (x + 6)), some (.inl r), some (.inl b)]) (st' := []) (M' := M2) rfl (by unfold inR; omega : inR (x + 6)) ?_
    exact h.2.2 _ _
  · refine Wl.path (k := 2) [1] (C := [r ≠ 0]) (pc' := 1015) (ls' := [some (.inr (.inr (51, 0))), some (.inr (.inr (9, 0))), some (.inr (.inr (10, 0))), some (.inr (.inr (50, 0))), some (.inl x), some (.inl r), some (.inl b)]) (st' := []) (M' := M2) rfl (c) ?_
    refine Wl.path (k := 3) [] (C := [inR (x + 6)]) (pc' := 23) (ls' := [some (.inr (.inr (51, 0))), some (.inr (.inr (9, 0))), some (.inr (.inr (10, 0))), some (.inr (.inr (50, 0))), some (.inl (x + 6)), some (.inl r), some (.inl b)]) (st' := []) (M' := M2) rfl (by unfold inR; omega : inR (x + 6)) ?_
    exact h.2.2 _ _
theorem lc_19 {n : Nat} {xs : Nat → Int} {q : Nat} {x : Int} {M : Mm} (h0 : 0 ≤ x) (h6 : x + 6 ≤ n) (h3 : n ≤ 3072) (h : E_920 M (fun (r : Int) (M1 : Mm) => E_1066 M1 (fun (b : Int) (M2 : Mm) => r = b ∧ Lw n xs q (x + 6) M2))) (o5 o6 : Option Vv) : Wl n xs (q + 1) 1018 [some (.inr (.inr (51, 0))), some (.inr (.inr (9, 0))), some (.inr (.inr (10, 0))), some (.inr (.inr (50, 0))), some (.inl x), o5, o6] [] M := by
  have up : ∀ {pc : Nat} {l : Ls} {st : List Vv} {M : Mm}, Wl n xs q pc l st M → Wl n xs (q + 1) pc l st M := fun ⟨q', M', a, b⟩ => ⟨q', M', by omega, b⟩
  apply up
  refine Wl.path (k := 1) [] (C := []) (pc' := 1019) (ls' := [some (.inr (.inr (51, 0))), some (.inr (.inr (9, 0))), some (.inr (.inr (10, 0))), some (.inr (.inr (50, 0))), some (.inl x), o5, o6]) (st' := [.inr (.inr (9, 0))]) (M' := M) rfl trivial ?_
  refine Wl.call h rfl rfl (by decide) ?_
  rintro _ M1 ⟨r, rfl, h⟩
  show Wl n xs q 1022 [some (.inr (.inr (51, 0))), some (.inr (.inr (9, 0))), some (.inr (.inr (10, 0))), some (.inr (.inr (50, 0))), some (.inl x), o5, o6] [.inl r] M1
  refine Wl.path (k := 1) [] (C := []) (pc' := 1023) (ls' := [some (.inr (.inr (51, 0))), some (.inr (.inr (9, 0))), some (.inr (.inr (10, 0))), some (.inr (.inr (50, 0))), some (.inl x), o5, o6]) (st' := [.inr (.inr (10, 0)), .inl r]) (M' := M1) rfl trivial ?_
  refine Wl.call h rfl rfl (by decide) ?_
  rintro _ M2 ⟨b, rfl, h⟩
  show Wl n xs q 1026 [some (.inr (.inr (51, 0))), some (.inr (.inr (9, 0))), some (.inr (.inr (10, 0))), some (.inr (.inr (50, 0))), some (.inl x), o5, o6] [.inl b, .inl r] M2
  refine Wl.path (k := 3) [1] (C := [r = b, inR (x + 6)]) (pc' := 23) (ls' := [some (.inr (.inr (51, 0))), some (.inr (.inr (9, 0))), some (.inr (.inr (10, 0))), some (.inr (.inr (50, 0))), some (.inl (x + 6)), o5, o6]) (st' := []) (M' := M2) rfl ⟨h.1, (by unfold inR; omega : inR (x + 6))⟩ ?_
  exact h.2 _ _
theorem lc_20 {n : Nat} {xs : Nat → Int} {q : Nat} {x : Int} {M : Mm} (h0 : 0 ≤ x) (h6 : x + 6 ≤ n) (h3 : n ≤ 3072) (h : E_921 M (fun (r : Int) (M1 : Mm) => E_1067 M1 (fun (b : Int) (M2 : Mm) => r = b ∧ Lw n xs q (x + 6) M2))) (o5 o6 : Option Vv) : Wl n xs (q + 1) 1031 [some (.inr (.inr (51, 0))), some (.inr (.inr (9, 0))), some (.inr (.inr (10, 0))), some (.inr (.inr (50, 0))), some (.inl x), o5, o6] [] M := by
  have up : ∀ {pc : Nat} {l : Ls} {st : List Vv} {M : Mm}, Wl n xs q pc l st M → Wl n xs (q + 1) pc l st M := fun ⟨q', M', a, b⟩ => ⟨q', M', by omega, b⟩
  apply up
  refine Wl.path (k := 1) [] (C := []) (pc' := 1032) (ls' := [some (.inr (.inr (51, 0))), some (.inr (.inr (9, 0))), some (.inr (.inr (10, 0))), some (.inr (.inr (50, 0))), some (.inl x), o5, o6]) (st' := [.inr (.inr (9, 0))]) (M' := M) rfl trivial ?_
  refine Wl.call h rfl rfl (by decide) ?_
  rintro _ M1 ⟨r, rfl, h⟩
  show Wl n xs q 1035 [some (.inr (.inr (51, 0))), some (.inr (.inr (9, 0))), some (.inr (.inr (10, 0))), some (.inr (.inr (50, 0))), some (.inl x), o5, o6] [.inl r] M1
  refine Wl.path (k := 1) [] (C := []) (pc' := 1036) (ls' := [some (.inr (.inr (51, 0))), some (.inr (.inr (9, 0))), some (.inr (.inr (10, 0))), some (.inr (.inr (50, 0))), some (.inl x), o5, o6]) (st' := [.inr (.inr (10, 0)), .inl r]) (M' := M1) rfl trivial ?_
  refine Wl.call h rfl rfl (by decide) ?_
  rintro _ M2 ⟨b, rfl, h⟩
  show Wl n xs q 1039 [some (.inr (.inr (51, 0))), some (.inr (.inr (9, 0))), some (.inr (.inr (10, 0))), some (.inr (.inr (50, 0))), some (.inl x), o5, o6] [.inl b, .inl r] M2
  refine Wl.path (k := 3) [1] (C := [r = b, inR (x + 6)]) (pc' := 23) (ls' := [some (.inr (.inr (51, 0))), some (.inr (.inr (9, 0))), some (.inr (.inr (10, 0))), some (.inr (.inr (50, 0))), some (.inl (x + 6)), o5, o6]) (st' := []) (M' := M2) rfl ⟨h.1, (by unfold inR; omega : inR (x + 6))⟩ ?_
  exact h.2 _ _
theorem lc_21 {n : Nat} {xs : Nat → Int} {q : Nat} {x : Int} {M : Mm} (h0 : 0 ≤ x) (h6 : x + 6 ≤ n) (h3 : n ≤ 3072) (h : W_1212 (xs (x + 1).toNat) (xs (x + 2).toNat) M (fun (r : Int) (M1 : Mm) => E_1068 (xs (x + 1).toNat) (xs (x + 2).toNat) M1 (fun (b : Int) (M2 : Mm) => M2.1 10 0 0 = r ∧ (r = 0 → M2.2 50 0 0 = (Int32.ofInt b).toInt64) ∧ Lw n xs q (x + 6) M2))) (o5 o6 : Option Vv) : Wl n xs (q + 1) 1044 [some (.inr (.inr (51, 0))), some (.inr (.inr (9, 0))), some (.inr (.inr (10, 0))), some (.inr (.inr (50, 0))), some (.inl x), o5, o6] [] M := by
  refine Wl.path (k := 12) [] (C := [inR (x + 1), 0 ≤ x + 1 ∧ x + 1 < (n : Int), inR (x + 2), 0 ≤ x + 2 ∧ x + 2 < (n : Int)]) (pc' := 1058) (ls' := [some (.inr (.inr (51, 0))), some (.inr (.inr (9, 0))), some (.inr (.inr (10, 0))), some (.inr (.inr (50, 0))), some (.inl x), o5, o6]) (st' := [.inr (.inr (50, 0)), .inl (xs (x + 2).toNat), .inl (xs (x + 1).toNat), .inr (.inr (9, 0))]) (M' := M) rfl ⟨(by unfold inR; omega : inR (x + 1)), (by omega : 0 ≤ x + 1 ∧ x + 1 < (n : Int)), (by unfold inR; omega : inR (x + 2)), (by omega : 0 ≤ x + 2 ∧ x + 2 < (n : Int))⟩ ?_
  refine Wl.callw h rfl rfl (by decide) ?_
  rintro _ M1 ⟨r, rfl, h⟩
  show Wl n xs q 1061 [some (.inr (.inr (51, 0))), some (.inr (.inr (9, 0))), some (.inr (.inr (10, 0))), some (.inr (.inr (50, 0))), some (.inl x), o5, o6] [.inl r] M1
  refine Wl.path (k := 12) [] (C := [inR (x + 1), 0 ≤ x + 1 ∧ x + 1 < (n : Int), inR (x + 2), 0 ≤ x + 2 ∧ x + 2 < (n : Int)]) (pc' := 1076) (ls' := [some (.inr (.inr (51, 0))), some (.inr (.inr (9, 0))), some (.inr (.inr (10, 0))), some (.inr (.inr (50, 0))), some (.inl x), some (.inl r), o6]) (st' := [.inl (xs (x + 2).toNat), .inl (xs (x + 1).toNat), .inr (.inr (10, 0))]) (M' := M1) rfl ⟨(by unfold inR; omega : inR (x + 1)), (by omega : 0 ≤ x + 1 ∧ x + 1 < (n : Int)), (by unfold inR; omega : inR (x + 2)), (by omega : 0 ≤ x + 2 ∧ x + 2 < (n : Int))⟩ ?_
  refine Wl.call h rfl rfl (by decide) ?_
  rintro _ M2 ⟨b, rfl, h⟩
  show Wl n xs q 1079 [some (.inr (.inr (51, 0))), some (.inr (.inr (9, 0))), some (.inr (.inr (10, 0))), some (.inr (.inr (50, 0))), some (.inl x), some (.inl r), o6] [.inl b] M2
  refine Wl.path (k := 2) [] (C := []) (pc' := 1082) (ls' := [some (.inr (.inr (51, 0))), some (.inr (.inr (9, 0))), some (.inr (.inr (10, 0))), some (.inr (.inr (50, 0))), some (.inl x), some (.inl r), some (.inl b)]) (st' := [.inr (.inr (10, 0))]) (M' := M2) rfl trivial ?_
  refine Wl.call e1001 rfl rfl (by decide) ?_
  rintro _ _ ⟨rfl, rfl⟩
  rename_i M2
  show Wl n xs q 1085 [some (.inr (.inr (51, 0))), some (.inr (.inr (9, 0))), some (.inr (.inr (10, 0))), some (.inr (.inr (50, 0))), some (.inl x), some (.inl r), some (.inl b)] [.inl (M2.1 10 0 0)] M2
  refine Wl.path (k := 2) [1] (C := [M2.1 10 0 0 = r]) (pc' := 1092) (ls' := [some (.inr (.inr (51, 0))), some (.inr (.inr (9, 0))), some (.inr (.inr (10, 0))), some (.inr (.inr (50, 0))), some (.inl x), some (.inl r), some (.inl b)]) (st' := []) (M' := M2) rfl (h.1) ?_
  rcases Decidable.em (r = 0) with c | c
  · refine Wl.path (k := 9) [0, 1] (C := [r = 0, (0 : Int) ≤ 0 ∧ (0 : Int) < (1 : Nat), lcm (M2.2 50 0 0) ((Int32.ofInt b).toInt64) = 0]) (pc' := 1109) (ls' := [some (.inr (.inr (51, 0))), some (.inr (.inr (9, 0))), some (.inr (.inr (10, 0))), some (.inr (.inr (50, 0))), some (.inl x), some (.inl r), some (.inl b)]) (st' := []) (M' := M2) rfl ⟨c, ⟨by decide, by decide⟩, (lcm_p _ _).mpr (h.2.1 c)⟩ ?_
    refine Wl.path (k := 3) [] (C := [inR (x + 6)]) (pc' := 23) (ls' := [some (.inr (.inr (51, 0))), some (.inr (.inr (9, 0))), some (.inr (.inr (10, 0))), some (.inr (.inr (50, 0))), some (.inl (x + 6)), some (.inl r), some (.inl b)]) (st' := []) (M' := M2) rfl (by unfold inR; omega : inR (x + 6)) ?_
    exact h.2.2 _ _
  · refine Wl.path (k := 2) [1] (C := [r ≠ 0]) (pc' := 1109) (ls' := [some (.inr (.inr (51, 0))), some (.inr (.inr (9, 0))), some (.inr (.inr (10, 0))), some (.inr (.inr (50, 0))), some (.inl x), some (.inl r), some (.inl b)]) (st' := []) (M' := M2) rfl (c) ?_
    refine Wl.path (k := 3) [] (C := [inR (x + 6)]) (pc' := 23) (ls' := [some (.inr (.inr (51, 0))), some (.inr (.inr (9, 0))), some (.inr (.inr (10, 0))), some (.inr (.inr (50, 0))), some (.inl (x + 6)), some (.inl r), some (.inl b)]) (st' := []) (M' := M2) rfl (by unfold inR; omega : inR (x + 6)) ?_
    exact h.2.2 _ _
theorem lc_22 {n : Nat} {xs : Nat → Int} {q : Nat} {x : Int} {M : Mm} (h0 : 0 ≤ x) (h6 : x + 6 ≤ n) (h3 : n ≤ 3072) (h : W_1213 (xs (x + 1).toNat) (xs (x + 2).toNat) (xs (x + 3).toNat) M (fun (r : Int) (M1 : Mm) => E_1071 (xs (x + 1).toNat) (xs (x + 2).toNat) (xs (x + 3).toNat) M1 (fun (b : Int) (M2 : Mm) => M2.1 10 0 0 = r ∧ (r = 0 → M2.2 50 0 0 = (Int32.ofInt b).toInt64) ∧ Lw n xs q (x + 6) M2))) (o5 o6 : Option Vv) : Wl n xs (q + 1) 1112 [some (.inr (.inr (51, 0))), some (.inr (.inr (9, 0))), some (.inr (.inr (10, 0))), some (.inr (.inr (50, 0))), some (.inl x), o5, o6] [] M := by
  refine Wl.path (k := 17) [] (C := [inR (x + 1), 0 ≤ x + 1 ∧ x + 1 < (n : Int), inR (x + 2), 0 ≤ x + 2 ∧ x + 2 < (n : Int), inR (x + 3), 0 ≤ x + 3 ∧ x + 3 < (n : Int)]) (pc' := 1132) (ls' := [some (.inr (.inr (51, 0))), some (.inr (.inr (9, 0))), some (.inr (.inr (10, 0))), some (.inr (.inr (50, 0))), some (.inl x), o5, o6]) (st' := [.inr (.inr (50, 0)), .inl (xs (x + 3).toNat), .inl (xs (x + 2).toNat), .inl (xs (x + 1).toNat), .inr (.inr (9, 0))]) (M' := M) rfl ⟨(by unfold inR; omega : inR (x + 1)), (by omega : 0 ≤ x + 1 ∧ x + 1 < (n : Int)), (by unfold inR; omega : inR (x + 2)), (by omega : 0 ≤ x + 2 ∧ x + 2 < (n : Int)), (by unfold inR; omega : inR (x + 3)), (by omega : 0 ≤ x + 3 ∧ x + 3 < (n : Int))⟩ ?_
  refine Wl.callw h rfl rfl (by decide) ?_
  rintro _ M1 ⟨r, rfl, h⟩
  show Wl n xs q 1135 [some (.inr (.inr (51, 0))), some (.inr (.inr (9, 0))), some (.inr (.inr (10, 0))), some (.inr (.inr (50, 0))), some (.inl x), o5, o6] [.inl r] M1
  refine Wl.path (k := 17) [] (C := [inR (x + 1), 0 ≤ x + 1 ∧ x + 1 < (n : Int), inR (x + 2), 0 ≤ x + 2 ∧ x + 2 < (n : Int), inR (x + 3), 0 ≤ x + 3 ∧ x + 3 < (n : Int)]) (pc' := 1156) (ls' := [some (.inr (.inr (51, 0))), some (.inr (.inr (9, 0))), some (.inr (.inr (10, 0))), some (.inr (.inr (50, 0))), some (.inl x), some (.inl r), o6]) (st' := [.inl (xs (x + 3).toNat), .inl (xs (x + 2).toNat), .inl (xs (x + 1).toNat), .inr (.inr (10, 0))]) (M' := M1) rfl ⟨(by unfold inR; omega : inR (x + 1)), (by omega : 0 ≤ x + 1 ∧ x + 1 < (n : Int)), (by unfold inR; omega : inR (x + 2)), (by omega : 0 ≤ x + 2 ∧ x + 2 < (n : Int)), (by unfold inR; omega : inR (x + 3)), (by omega : 0 ≤ x + 3 ∧ x + 3 < (n : Int))⟩ ?_
  refine Wl.call h rfl rfl (by decide) ?_
  rintro _ M2 ⟨b, rfl, h⟩
  show Wl n xs q 1159 [some (.inr (.inr (51, 0))), some (.inr (.inr (9, 0))), some (.inr (.inr (10, 0))), some (.inr (.inr (50, 0))), some (.inl x), some (.inl r), o6] [.inl b] M2
  refine Wl.path (k := 2) [] (C := []) (pc' := 1162) (ls' := [some (.inr (.inr (51, 0))), some (.inr (.inr (9, 0))), some (.inr (.inr (10, 0))), some (.inr (.inr (50, 0))), some (.inl x), some (.inl r), some (.inl b)]) (st' := [.inr (.inr (10, 0))]) (M' := M2) rfl trivial ?_
  refine Wl.call e1001 rfl rfl (by decide) ?_
  rintro _ _ ⟨rfl, rfl⟩
  rename_i M2
  show Wl n xs q 1165 [some (.inr (.inr (51, 0))), some (.inr (.inr (9, 0))), some (.inr (.inr (10, 0))), some (.inr (.inr (50, 0))), some (.inl x), some (.inl r), some (.inl b)] [.inl (M2.1 10 0 0)] M2
  refine Wl.path (k := 2) [1] (C := [M2.1 10 0 0 = r]) (pc' := 1172) (ls' := [some (.inr (.inr (51, 0))), some (.inr (.inr (9, 0))), some (.inr (.inr (10, 0))), some (.inr (.inr (50, 0))), some (.inl x), some (.inl r), some (.inl b)]) (st' := []) (M' := M2) rfl (h.1) ?_
  rcases Decidable.em (r = 0) with c | c
  · refine Wl.path (k := 9) [0, 1] (C := [r = 0, (0 : Int) ≤ 0 ∧ (0 : Int) < (1 : Nat), lcm (M2.2 50 0 0) ((Int32.ofInt b).toInt64) = 0]) (pc' := 1189) (ls' := [some (.inr (.inr (51, 0))), some (.inr (.inr (9, 0))), some (.inr (.inr (10, 0))), some (.inr (.inr (50, 0))), some (.inl x), some (.inl r), some (.inl b)]) (st' := []) (M' := M2) rfl ⟨c, ⟨by decide, by decide⟩, (lcm_p _ _).mpr (h.2.1 c)⟩ ?_
    refine Wl.path (k := 3) [] (C := [inR (x + 6)]) (pc' := 23) (ls' := [some (.inr (.inr (51, 0))), some (.inr (.inr (9, 0))), some (.inr (.inr (10, 0))), some (.inr (.inr (50, 0))), some (.inl (x + 6)), some (.inl r), some (.inl b)]) (st' := []) (M' := M2) rfl (by unfold inR; omega : inR (x + 6)) ?_
    exact h.2.2 _ _
  · refine Wl.path (k := 2) [1] (C := [r ≠ 0]) (pc' := 1189) (ls' := [some (.inr (.inr (51, 0))), some (.inr (.inr (9, 0))), some (.inr (.inr (10, 0))), some (.inr (.inr (50, 0))), some (.inl x), some (.inl r), some (.inl b)]) (st' := []) (M' := M2) rfl (c) ?_
    refine Wl.path (k := 3) [] (C := [inR (x + 6)]) (pc' := 23) (ls' := [some (.inr (.inr (51, 0))), some (.inr (.inr (9, 0))), some (.inr (.inr (10, 0))), some (.inr (.inr (50, 0))), some (.inl (x + 6)), some (.inl r), some (.inl b)]) (st' := []) (M' := M2) rfl (by unfold inR; omega : inR (x + 6)) ?_
    exact h.2.2 _ _
theorem lc_23 {n : Nat} {xs : Nat → Int} {q : Nat} {x : Int} {M : Mm} (h0 : 0 ≤ x) (h6 : x + 6 ≤ n) (h3 : n ≤ 3072) (h : W_1214 (xs (x + 1).toNat) (xs (x + 2).toNat) (xs (x + 3).toNat) (xs (x + 4).toNat) M (fun (r : Int) (M1 : Mm) => E_1072 (xs (x + 1).toNat) (xs (x + 2).toNat) (xs (x + 3).toNat) (xs (x + 4).toNat) M1 (fun (b : Int) (M2 : Mm) => M2.1 10 0 0 = r ∧ (r = 0 → M2.2 50 0 0 = (Int32.ofInt b).toInt64) ∧ Lw n xs q (x + 6) M2))) (o5 o6 : Option Vv) : Wl n xs (q + 1) 1192 [some (.inr (.inr (51, 0))), some (.inr (.inr (9, 0))), some (.inr (.inr (10, 0))), some (.inr (.inr (50, 0))), some (.inl x), o5, o6] [] M := by
  refine Wl.path (k := 22) [] (C := [inR (x + 1), 0 ≤ x + 1 ∧ x + 1 < (n : Int), inR (x + 2), 0 ≤ x + 2 ∧ x + 2 < (n : Int), inR (x + 3), 0 ≤ x + 3 ∧ x + 3 < (n : Int), inR (x + 4), 0 ≤ x + 4 ∧ x + 4 < (n : Int)]) (pc' := 1218) (ls' := [some (.inr (.inr (51, 0))), some (.inr (.inr (9, 0))), some (.inr (.inr (10, 0))), some (.inr (.inr (50, 0))), some (.inl x), o5, o6]) (st' := [.inr (.inr (50, 0)), .inl (xs (x + 4).toNat), .inl (xs (x + 3).toNat), .inl (xs (x + 2).toNat), .inl (xs (x + 1).toNat), .inr (.inr (9, 0))]) (M' := M) rfl ⟨(by unfold inR; omega : inR (x + 1)), (by omega : 0 ≤ x + 1 ∧ x + 1 < (n : Int)), (by unfold inR; omega : inR (x + 2)), (by omega : 0 ≤ x + 2 ∧ x + 2 < (n : Int)), (by unfold inR; omega : inR (x + 3)), (by omega : 0 ≤ x + 3 ∧ x + 3 < (n : Int)), (by unfold inR; omega : inR (x + 4)), (by omega : 0 ≤ x + 4 ∧ x + 4 < (n : Int))⟩ ?_
  refine Wl.callw h rfl rfl (by decide) ?_
  rintro _ M1 ⟨r, rfl, h⟩
  show Wl n xs q 1221 [some (.inr (.inr (51, 0))), some (.inr (.inr (9, 0))), some (.inr (.inr (10, 0))), some (.inr (.inr (50, 0))), some (.inl x), o5, o6] [.inl r] M1
  refine Wl.path (k := 22) [] (C := [inR (x + 1), 0 ≤ x + 1 ∧ x + 1 < (n : Int), inR (x + 2), 0 ≤ x + 2 ∧ x + 2 < (n : Int), inR (x + 3), 0 ≤ x + 3 ∧ x + 3 < (n : Int), inR (x + 4), 0 ≤ x + 4 ∧ x + 4 < (n : Int)]) (pc' := 1248) (ls' := [some (.inr (.inr (51, 0))), some (.inr (.inr (9, 0))), some (.inr (.inr (10, 0))), some (.inr (.inr (50, 0))), some (.inl x), some (.inl r), o6]) (st' := [.inl (xs (x + 4).toNat), .inl (xs (x + 3).toNat), .inl (xs (x + 2).toNat), .inl (xs (x + 1).toNat), .inr (.inr (10, 0))]) (M' := M1) rfl ⟨(by unfold inR; omega : inR (x + 1)), (by omega : 0 ≤ x + 1 ∧ x + 1 < (n : Int)), (by unfold inR; omega : inR (x + 2)), (by omega : 0 ≤ x + 2 ∧ x + 2 < (n : Int)), (by unfold inR; omega : inR (x + 3)), (by omega : 0 ≤ x + 3 ∧ x + 3 < (n : Int)), (by unfold inR; omega : inR (x + 4)), (by omega : 0 ≤ x + 4 ∧ x + 4 < (n : Int))⟩ ?_
  refine Wl.call h rfl rfl (by decide) ?_
  rintro _ M2 ⟨b, rfl, h⟩
  show Wl n xs q 1251 [some (.inr (.inr (51, 0))), some (.inr (.inr (9, 0))), some (.inr (.inr (10, 0))), some (.inr (.inr (50, 0))), some (.inl x), some (.inl r), o6] [.inl b] M2
  refine Wl.path (k := 2) [] (C := []) (pc' := 1254) (ls' := [some (.inr (.inr (51, 0))), some (.inr (.inr (9, 0))), some (.inr (.inr (10, 0))), some (.inr (.inr (50, 0))), some (.inl x), some (.inl r), some (.inl b)]) (st' := [.inr (.inr (10, 0))]) (M' := M2) rfl trivial ?_
  refine Wl.call e1001 rfl rfl (by decide) ?_
  rintro _ _ ⟨rfl, rfl⟩
  rename_i M2
  show Wl n xs q 1257 [some (.inr (.inr (51, 0))), some (.inr (.inr (9, 0))), some (.inr (.inr (10, 0))), some (.inr (.inr (50, 0))), some (.inl x), some (.inl r), some (.inl b)] [.inl (M2.1 10 0 0)] M2
  refine Wl.path (k := 2) [1] (C := [M2.1 10 0 0 = r]) (pc' := 1264) (ls' := [some (.inr (.inr (51, 0))), some (.inr (.inr (9, 0))), some (.inr (.inr (10, 0))), some (.inr (.inr (50, 0))), some (.inl x), some (.inl r), some (.inl b)]) (st' := []) (M' := M2) rfl (h.1) ?_
  rcases Decidable.em (r = 0) with c | c
  · refine Wl.path (k := 9) [0, 1] (C := [r = 0, (0 : Int) ≤ 0 ∧ (0 : Int) < (1 : Nat), lcm (M2.2 50 0 0) ((Int32.ofInt b).toInt64) = 0]) (pc' := 1281) (ls' := [some (.inr (.inr (51, 0))), some (.inr (.inr (9, 0))), some (.inr (.inr (10, 0))), some (.inr (.inr (50, 0))), some (.inl x), some (.inl r), some (.inl b)]) (st' := []) (M' := M2) rfl ⟨c, ⟨by decide, by decide⟩, (lcm_p _ _).mpr (h.2.1 c)⟩ ?_
    refine Wl.path (k := 3) [] (C := [inR (x + 6)]) (pc' := 23) (ls' := [some (.inr (.inr (51, 0))), some (.inr (.inr (9, 0))), some (.inr (.inr (10, 0))), some (.inr (.inr (50, 0))), some (.inl (x + 6)), some (.inl r), some (.inl b)]) (st' := []) (M' := M2) rfl (by unfold inR; omega : inR (x + 6)) ?_
    exact h.2.2 _ _
  · refine Wl.path (k := 2) [1] (C := [r ≠ 0]) (pc' := 1281) (ls' := [some (.inr (.inr (51, 0))), some (.inr (.inr (9, 0))), some (.inr (.inr (10, 0))), some (.inr (.inr (50, 0))), some (.inl x), some (.inl r), some (.inl b)]) (st' := []) (M' := M2) rfl (c) ?_
    refine Wl.path (k := 3) [] (C := [inR (x + 6)]) (pc' := 23) (ls' := [some (.inr (.inr (51, 0))), some (.inr (.inr (9, 0))), some (.inr (.inr (10, 0))), some (.inr (.inr (50, 0))), some (.inl (x + 6)), some (.inl r), some (.inl b)]) (st' := []) (M' := M2) rfl (by unfold inR; omega : inR (x + 6)) ?_
    exact h.2.2 _ _
theorem lc_24 {n : Nat} {xs : Nat → Int} {q : Nat} {x : Int} {M : Mm} (h0 : 0 ≤ x) (h6 : x + 6 ≤ n) (h3 : n ≤ 3072) (h : W_1215 (xs (x + 1).toNat) (xs (x + 2).toNat) (xs (x + 3).toNat) (xs (x + 4).toNat) M (fun (r : Int) (M1 : Mm) => E_1073 (xs (x + 1).toNat) (xs (x + 2).toNat) (xs (x + 3).toNat) (xs (x + 4).toNat) M1 (fun (b : Int) (M2 : Mm) => M2.1 10 0 0 = r ∧ (r = 0 → M2.2 50 0 0 = (Int32.ofInt b).toInt64) ∧ Lw n xs q (x + 6) M2))) (o5 o6 : Option Vv) : Wl n xs (q + 1) 1284 [some (.inr (.inr (51, 0))), some (.inr (.inr (9, 0))), some (.inr (.inr (10, 0))), some (.inr (.inr (50, 0))), some (.inl x), o5, o6] [] M := by
  refine Wl.path (k := 22) [] (C := [inR (x + 1), 0 ≤ x + 1 ∧ x + 1 < (n : Int), inR (x + 2), 0 ≤ x + 2 ∧ x + 2 < (n : Int), inR (x + 3), 0 ≤ x + 3 ∧ x + 3 < (n : Int), inR (x + 4), 0 ≤ x + 4 ∧ x + 4 < (n : Int)]) (pc' := 1310) (ls' := [some (.inr (.inr (51, 0))), some (.inr (.inr (9, 0))), some (.inr (.inr (10, 0))), some (.inr (.inr (50, 0))), some (.inl x), o5, o6]) (st' := [.inr (.inr (50, 0)), .inl (xs (x + 4).toNat), .inl (xs (x + 3).toNat), .inl (xs (x + 2).toNat), .inl (xs (x + 1).toNat), .inr (.inr (9, 0))]) (M' := M) rfl ⟨(by unfold inR; omega : inR (x + 1)), (by omega : 0 ≤ x + 1 ∧ x + 1 < (n : Int)), (by unfold inR; omega : inR (x + 2)), (by omega : 0 ≤ x + 2 ∧ x + 2 < (n : Int)), (by unfold inR; omega : inR (x + 3)), (by omega : 0 ≤ x + 3 ∧ x + 3 < (n : Int)), (by unfold inR; omega : inR (x + 4)), (by omega : 0 ≤ x + 4 ∧ x + 4 < (n : Int))⟩ ?_
  refine Wl.callw h rfl rfl (by decide) ?_
  rintro _ M1 ⟨r, rfl, h⟩
  show Wl n xs q 1313 [some (.inr (.inr (51, 0))), some (.inr (.inr (9, 0))), some (.inr (.inr (10, 0))), some (.inr (.inr (50, 0))), some (.inl x), o5, o6] [.inl r] M1
  refine Wl.path (k := 22) [] (C := [inR (x + 1), 0 ≤ x + 1 ∧ x + 1 < (n : Int), inR (x + 2), 0 ≤ x + 2 ∧ x + 2 < (n : Int), inR (x + 3), 0 ≤ x + 3 ∧ x + 3 < (n : Int), inR (x + 4), 0 ≤ x + 4 ∧ x + 4 < (n : Int)]) (pc' := 1340) (ls' := [some (.inr (.inr (51, 0))), some (.inr (.inr (9, 0))), some (.inr (.inr (10, 0))), some (.inr (.inr (50, 0))), some (.inl x), some (.inl r), o6]) (st' := [.inl (xs (x + 4).toNat), .inl (xs (x + 3).toNat), .inl (xs (x + 2).toNat), .inl (xs (x + 1).toNat), .inr (.inr (10, 0))]) (M' := M1) rfl ⟨(by unfold inR; omega : inR (x + 1)), (by omega : 0 ≤ x + 1 ∧ x + 1 < (n : Int)), (by unfold inR; omega : inR (x + 2)), (by omega : 0 ≤ x + 2 ∧ x + 2 < (n : Int)), (by unfold inR; omega : inR (x + 3)), (by omega : 0 ≤ x + 3 ∧ x + 3 < (n : Int)), (by unfold inR; omega : inR (x + 4)), (by omega : 0 ≤ x + 4 ∧ x + 4 < (n : Int))⟩ ?_
  refine Wl.call h rfl rfl (by decide) ?_
  rintro _ M2 ⟨b, rfl, h⟩
  show Wl n xs q 1343 [some (.inr (.inr (51, 0))), some (.inr (.inr (9, 0))), some (.inr (.inr (10, 0))), some (.inr (.inr (50, 0))), some (.inl x), some (.inl r), o6] [.inl b] M2
  refine Wl.path (k := 2) [] (C := []) (pc' := 1346) (ls' := [some (.inr (.inr (51, 0))), some (.inr (.inr (9, 0))), some (.inr (.inr (10, 0))), some (.inr (.inr (50, 0))), some (.inl x), some (.inl r), some (.inl b)]) (st' := [.inr (.inr (10, 0))]) (M' := M2) rfl trivial ?_
  refine Wl.call e1001 rfl rfl (by decide) ?_
  rintro _ _ ⟨rfl, rfl⟩
  rename_i M2
  show Wl n xs q 1349 [some (.inr (.inr (51, 0))), some (.inr (.inr (9, 0))), some (.inr (.inr (10, 0))), some (.inr (.inr (50, 0))), some (.inl x), some (.inl r), some (.inl b)] [.inl (M2.1 10 0 0)] M2
  refine Wl.path (k := 2) [1] (C := [M2.1 10 0 0 = r]) (pc' := 1356) (ls' := [some (.inr (.inr (51, 0))), some (.inr (.inr (9, 0))), some (.inr (.inr (10, 0))), some (.inr (.inr (50, 0))), some (.inl x), some (.inl r), some (.inl b)]) (st' := []) (M' := M2) rfl (h.1) ?_
  rcases Decidable.em (r = 0) with c | c
  · refine Wl.path (k := 9) [0, 1] (C := [r = 0, (0 : Int) ≤ 0 ∧ (0 : Int) < (1 : Nat), lcm (M2.2 50 0 0) ((Int32.ofInt b).toInt64) = 0]) (pc' := 1373) (ls' := [some (.inr (.inr (51, 0))), some (.inr (.inr (9, 0))), some (.inr (.inr (10, 0))), some (.inr (.inr (50, 0))), some (.inl x), some (.inl r), some (.inl b)]) (st' := []) (M' := M2) rfl ⟨c, ⟨by decide, by decide⟩, (lcm_p _ _).mpr (h.2.1 c)⟩ ?_
    refine Wl.path (k := 3) [] (C := [inR (x + 6)]) (pc' := 23) (ls' := [some (.inr (.inr (51, 0))), some (.inr (.inr (9, 0))), some (.inr (.inr (10, 0))), some (.inr (.inr (50, 0))), some (.inl (x + 6)), some (.inl r), some (.inl b)]) (st' := []) (M' := M2) rfl (by unfold inR; omega : inR (x + 6)) ?_
    exact h.2.2 _ _
  · refine Wl.path (k := 2) [1] (C := [r ≠ 0]) (pc' := 1373) (ls' := [some (.inr (.inr (51, 0))), some (.inr (.inr (9, 0))), some (.inr (.inr (10, 0))), some (.inr (.inr (50, 0))), some (.inl x), some (.inl r), some (.inl b)]) (st' := []) (M' := M2) rfl (c) ?_
    refine Wl.path (k := 3) [] (C := [inR (x + 6)]) (pc' := 23) (ls' := [some (.inr (.inr (51, 0))), some (.inr (.inr (9, 0))), some (.inr (.inr (10, 0))), some (.inr (.inr (50, 0))), some (.inl (x + 6)), some (.inl r), some (.inl b)]) (st' := []) (M' := M2) rfl (by unfold inR; omega : inR (x + 6)) ?_
    exact h.2.2 _ _
theorem lc_25 {n : Nat} {xs : Nat → Int} {q : Nat} {x : Int} {M : Mm} (h0 : 0 ≤ x) (h6 : x + 6 ≤ n) (h3 : n ≤ 3072) (h : W_1216 (xs (x + 1).toNat) (xs (x + 2).toNat) (xs (x + 3).toNat) M (fun (r : Int) (M1 : Mm) => E_1075 (xs (x + 1).toNat) (xs (x + 2).toNat) (xs (x + 3).toNat) M1 (fun (b : Int) (M2 : Mm) => M2.1 10 0 0 = r ∧ (r = 0 → M2.2 50 0 0 = (Int32.ofInt b).toInt64) ∧ Lw n xs q (x + 6) M2))) (o5 o6 : Option Vv) : Wl n xs (q + 1) 1376 [some (.inr (.inr (51, 0))), some (.inr (.inr (9, 0))), some (.inr (.inr (10, 0))), some (.inr (.inr (50, 0))), some (.inl x), o5, o6] [] M := by
  refine Wl.path (k := 17) [] (C := [inR (x + 1), 0 ≤ x + 1 ∧ x + 1 < (n : Int), inR (x + 2), 0 ≤ x + 2 ∧ x + 2 < (n : Int), inR (x + 3), 0 ≤ x + 3 ∧ x + 3 < (n : Int)]) (pc' := 1396) (ls' := [some (.inr (.inr (51, 0))), some (.inr (.inr (9, 0))), some (.inr (.inr (10, 0))), some (.inr (.inr (50, 0))), some (.inl x), o5, o6]) (st' := [.inr (.inr (50, 0)), .inl (xs (x + 3).toNat), .inl (xs (x + 2).toNat), .inl (xs (x + 1).toNat), .inr (.inr (9, 0))]) (M' := M) rfl ⟨(by unfold inR; omega : inR (x + 1)), (by omega : 0 ≤ x + 1 ∧ x + 1 < (n : Int)), (by unfold inR; omega : inR (x + 2)), (by omega : 0 ≤ x + 2 ∧ x + 2 < (n : Int)), (by unfold inR; omega : inR (x + 3)), (by omega : 0 ≤ x + 3 ∧ x + 3 < (n : Int))⟩ ?_
  refine Wl.callw h rfl rfl (by decide) ?_
  rintro _ M1 ⟨r, rfl, h⟩
  show Wl n xs q 1399 [some (.inr (.inr (51, 0))), some (.inr (.inr (9, 0))), some (.inr (.inr (10, 0))), some (.inr (.inr (50, 0))), some (.inl x), o5, o6] [.inl r] M1
  refine Wl.path (k := 17) [] (C := [inR (x + 1), 0 ≤ x + 1 ∧ x + 1 < (n : Int), inR (x + 2), 0 ≤ x + 2 ∧ x + 2 < (n : Int), inR (x + 3), 0 ≤ x + 3 ∧ x + 3 < (n : Int)]) (pc' := 1420) (ls' := [some (.inr (.inr (51, 0))), some (.inr (.inr (9, 0))), some (.inr (.inr (10, 0))), some (.inr (.inr (50, 0))), some (.inl x), some (.inl r), o6]) (st' := [.inl (xs (x + 3).toNat), .inl (xs (x + 2).toNat), .inl (xs (x + 1).toNat), .inr (.inr (10, 0))]) (M' := M1) rfl ⟨(by unfold inR; omega : inR (x + 1)), (by omega : 0 ≤ x + 1 ∧ x + 1 < (n : Int)), (by unfold inR; omega : inR (x + 2)), (by omega : 0 ≤ x + 2 ∧ x + 2 < (n : Int)), (by unfold inR; omega : inR (x + 3)), (by omega : 0 ≤ x + 3 ∧ x + 3 < (n : Int))⟩ ?_
  refine Wl.call h rfl rfl (by decide) ?_
  rintro _ M2 ⟨b, rfl, h⟩
  show Wl n xs q 1423 [some (.inr (.inr (51, 0))), some (.inr (.inr (9, 0))), some (.inr (.inr (10, 0))), some (.inr (.inr (50, 0))), some (.inl x), some (.inl r), o6] [.inl b] M2
  refine Wl.path (k := 2) [] (C := []) (pc' := 1426) (ls' := [some (.inr (.inr (51, 0))), some (.inr (.inr (9, 0))), some (.inr (.inr (10, 0))), some (.inr (.inr (50, 0))), some (.inl x), some (.inl r), some (.inl b)]) (st' := [.inr (.inr (10, 0))]) (M' := M2) rfl trivial ?_
  refine Wl.call e1001 rfl rfl (by decide) ?_
  rintro _ _ ⟨rfl, rfl⟩
  rename_i M2
  show Wl n xs q 1429 [some (.inr (.inr (51, 0))), some (.inr (.inr (9, 0))), some (.inr (.inr (10, 0))), some (.inr (.inr (50, 0))), some (.inl x), some (.inl r), some (.inl b)] [.inl (M2.1 10 0 0)] M2
  refine Wl.path (k := 2) [1] (C := [M2.1 10 0 0 = r]) (pc' := 1436) (ls' := [some (.inr (.inr (51, 0))), some (.inr (.inr (9, 0))), some (.inr (.inr (10, 0))), some (.inr (.inr (50, 0))), some (.inl x), some (.inl r), some (.inl b)]) (st' := []) (M' := M2) rfl (h.1) ?_
  rcases Decidable.em (r = 0) with c | c
  · refine Wl.path (k := 9) [0, 1] (C := [r = 0, (0 : Int) ≤ 0 ∧ (0 : Int) < (1 : Nat), lcm (M2.2 50 0 0) ((Int32.ofInt b).toInt64) = 0]) (pc' := 1453) (ls' := [some (.inr (.inr (51, 0))), some (.inr (.inr (9, 0))), some (.inr (.inr (10, 0))), some (.inr (.inr (50, 0))), some (.inl x), some (.inl r), some (.inl b)]) (st' := []) (M' := M2) rfl ⟨c, ⟨by decide, by decide⟩, (lcm_p _ _).mpr (h.2.1 c)⟩ ?_
    refine Wl.path (k := 3) [] (C := [inR (x + 6)]) (pc' := 23) (ls' := [some (.inr (.inr (51, 0))), some (.inr (.inr (9, 0))), some (.inr (.inr (10, 0))), some (.inr (.inr (50, 0))), some (.inl (x + 6)), some (.inl r), some (.inl b)]) (st' := []) (M' := M2) rfl (by unfold inR; omega : inR (x + 6)) ?_
    exact h.2.2 _ _
  · refine Wl.path (k := 2) [1] (C := [r ≠ 0]) (pc' := 1453) (ls' := [some (.inr (.inr (51, 0))), some (.inr (.inr (9, 0))), some (.inr (.inr (10, 0))), some (.inr (.inr (50, 0))), some (.inl x), some (.inl r), some (.inl b)]) (st' := []) (M' := M2) rfl (c) ?_
    refine Wl.path (k := 3) [] (C := [inR (x + 6)]) (pc' := 23) (ls' := [some (.inr (.inr (51, 0))), some (.inr (.inr (9, 0))), some (.inr (.inr (10, 0))), some (.inr (.inr (50, 0))), some (.inl (x + 6)), some (.inl r), some (.inl b)]) (st' := []) (M' := M2) rfl (by unfold inR; omega : inR (x + 6)) ?_
    exact h.2.2 _ _
theorem lc_26 {n : Nat} {xs : Nat → Int} {q : Nat} {x : Int} {M : Mm} (h0 : 0 ≤ x) (h6 : x + 6 ≤ n) (h3 : n ≤ 3072) (h : E_927 M (fun (r : Int) (M1 : Mm) => E_1078 M1 (fun (b : Int) (M2 : Mm) => r = b ∧ Lw n xs q (x + 6) M2))) (o5 o6 : Option Vv) : Wl n xs (q + 1) 1456 [some (.inr (.inr (51, 0))), some (.inr (.inr (9, 0))), some (.inr (.inr (10, 0))), some (.inr (.inr (50, 0))), some (.inl x), o5, o6] [] M := by
  have up : ∀ {pc : Nat} {l : Ls} {st : List Vv} {M : Mm}, Wl n xs q pc l st M → Wl n xs (q + 1) pc l st M := fun ⟨q', M', a, b⟩ => ⟨q', M', by omega, b⟩
  apply up
  refine Wl.path (k := 1) [] (C := []) (pc' := 1457) (ls' := [some (.inr (.inr (51, 0))), some (.inr (.inr (9, 0))), some (.inr (.inr (10, 0))), some (.inr (.inr (50, 0))), some (.inl x), o5, o6]) (st' := [.inr (.inr (9, 0))]) (M' := M) rfl trivial ?_
  refine Wl.call h rfl rfl (by decide) ?_
  rintro _ M1 ⟨r, rfl, h⟩
  show Wl n xs q 1460 [some (.inr (.inr (51, 0))), some (.inr (.inr (9, 0))), some (.inr (.inr (10, 0))), some (.inr (.inr (50, 0))), some (.inl x), o5, o6] [.inl r] M1
  refine Wl.path (k := 1) [] (C := []) (pc' := 1461) (ls' := [some (.inr (.inr (51, 0))), some (.inr (.inr (9, 0))), some (.inr (.inr (10, 0))), some (.inr (.inr (50, 0))), some (.inl x), o5, o6]) (st' := [.inr (.inr (10, 0)), .inl r]) (M' := M1) rfl trivial ?_
  refine Wl.call h rfl rfl (by decide) ?_
  rintro _ M2 ⟨b, rfl, h⟩
  show Wl n xs q 1464 [some (.inr (.inr (51, 0))), some (.inr (.inr (9, 0))), some (.inr (.inr (10, 0))), some (.inr (.inr (50, 0))), some (.inl x), o5, o6] [.inl b, .inl r] M2
  refine Wl.path (k := 3) [1] (C := [r = b, inR (x + 6)]) (pc' := 23) (ls' := [some (.inr (.inr (51, 0))), some (.inr (.inr (9, 0))), some (.inr (.inr (10, 0))), some (.inr (.inr (50, 0))), some (.inl (x + 6)), o5, o6]) (st' := []) (M' := M2) rfl ⟨h.1, (by unfold inR; omega : inR (x + 6))⟩ ?_
  exact h.2 _ _
theorem lc_27 {n : Nat} {xs : Nat → Int} {q : Nat} {x : Int} {M : Mm} (h0 : 0 ≤ x) (h6 : x + 6 ≤ n) (h3 : n ≤ 3072) (h : W_1217 (xs (x + 1).toNat) (xs (x + 2).toNat) M (fun (r : Int) (M1 : Mm) => E_1080 (xs (x + 1).toNat) (xs (x + 2).toNat) M1 (fun (b : Int) (M2 : Mm) => M2.1 10 0 0 = r ∧ (r = 0 → M2.2 50 0 0 = (Int32.ofInt b).toInt64) ∧ Lw n xs q (x + 6) M2))) (o5 o6 : Option Vv) : Wl n xs (q + 1) 1469 [some (.inr (.inr (51, 0))), some (.inr (.inr (9, 0))), some (.inr (.inr (10, 0))), some (.inr (.inr (50, 0))), some (.inl x), o5, o6] [] M := by
  refine Wl.path (k := 12) [] (C := [inR (x + 1), 0 ≤ x + 1 ∧ x + 1 < (n : Int), inR (x + 2), 0 ≤ x + 2 ∧ x + 2 < (n : Int)]) (pc' := 1483) (ls' := [some (.inr (.inr (51, 0))), some (.inr (.inr (9, 0))), some (.inr (.inr (10, 0))), some (.inr (.inr (50, 0))), some (.inl x), o5, o6]) (st' := [.inr (.inr (50, 0)), .inl (xs (x + 2).toNat), .inl (xs (x + 1).toNat), .inr (.inr (9, 0))]) (M' := M) rfl ⟨(by unfold inR; omega : inR (x + 1)), (by omega : 0 ≤ x + 1 ∧ x + 1 < (n : Int)), (by unfold inR; omega : inR (x + 2)), (by omega : 0 ≤ x + 2 ∧ x + 2 < (n : Int))⟩ ?_
  refine Wl.callw h rfl rfl (by decide) ?_
  rintro _ M1 ⟨r, rfl, h⟩
  show Wl n xs q 1486 [some (.inr (.inr (51, 0))), some (.inr (.inr (9, 0))), some (.inr (.inr (10, 0))), some (.inr (.inr (50, 0))), some (.inl x), o5, o6] [.inl r] M1
  refine Wl.path (k := 12) [] (C := [inR (x + 1), 0 ≤ x + 1 ∧ x + 1 < (n : Int), inR (x + 2), 0 ≤ x + 2 ∧ x + 2 < (n : Int)]) (pc' := 1501) (ls' := [some (.inr (.inr (51, 0))), some (.inr (.inr (9, 0))), some (.inr (.inr (10, 0))), some (.inr (.inr (50, 0))), some (.inl x), some (.inl r), o6]) (st' := [.inl (xs (x + 2).toNat), .inl (xs (x + 1).toNat), .inr (.inr (10, 0))]) (M' := M1) rfl ⟨(by unfold inR; omega : inR (x + 1)), (by omega : 0 ≤ x + 1 ∧ x + 1 < (n : Int)), (by unfold inR; omega : inR (x + 2)), (by omega : 0 ≤ x + 2 ∧ x + 2 < (n : Int))⟩ ?_
  refine Wl.call h rfl rfl (by decide) ?_
  rintro _ M2 ⟨b, rfl, h⟩
  show Wl n xs q 1504 [some (.inr (.inr (51, 0))), some (.inr (.inr (9, 0))), some (.inr (.inr (10, 0))), some (.inr (.inr (50, 0))), some (.inl x), some (.inl r), o6] [.inl b] M2
  refine Wl.path (k := 2) [] (C := []) (pc' := 1507) (ls' := [some (.inr (.inr (51, 0))), some (.inr (.inr (9, 0))), some (.inr (.inr (10, 0))), some (.inr (.inr (50, 0))), some (.inl x), some (.inl r), some (.inl b)]) (st' := [.inr (.inr (10, 0))]) (M' := M2) rfl trivial ?_
  refine Wl.call e1001 rfl rfl (by decide) ?_
  rintro _ _ ⟨rfl, rfl⟩
  rename_i M2
  show Wl n xs q 1510 [some (.inr (.inr (51, 0))), some (.inr (.inr (9, 0))), some (.inr (.inr (10, 0))), some (.inr (.inr (50, 0))), some (.inl x), some (.inl r), some (.inl b)] [.inl (M2.1 10 0 0)] M2
  refine Wl.path (k := 2) [1] (C := [M2.1 10 0 0 = r]) (pc' := 1517) (ls' := [some (.inr (.inr (51, 0))), some (.inr (.inr (9, 0))), some (.inr (.inr (10, 0))), some (.inr (.inr (50, 0))), some (.inl x), some (.inl r), some (.inl b)]) (st' := []) (M' := M2) rfl (h.1) ?_
  rcases Decidable.em (r = 0) with c | c
  · refine Wl.path (k := 9) [0, 1] (C := [r = 0, (0 : Int) ≤ 0 ∧ (0 : Int) < (1 : Nat), lcm (M2.2 50 0 0) ((Int32.ofInt b).toInt64) = 0]) (pc' := 1534) (ls' := [some (.inr (.inr (51, 0))), some (.inr (.inr (9, 0))), some (.inr (.inr (10, 0))), some (.inr (.inr (50, 0))), some (.inl x), some (.inl r), some (.inl b)]) (st' := []) (M' := M2) rfl ⟨c, ⟨by decide, by decide⟩, (lcm_p _ _).mpr (h.2.1 c)⟩ ?_
    refine Wl.path (k := 3) [] (C := [inR (x + 6)]) (pc' := 23) (ls' := [some (.inr (.inr (51, 0))), some (.inr (.inr (9, 0))), some (.inr (.inr (10, 0))), some (.inr (.inr (50, 0))), some (.inl (x + 6)), some (.inl r), some (.inl b)]) (st' := []) (M' := M2) rfl (by unfold inR; omega : inR (x + 6)) ?_
    exact h.2.2 _ _
  · refine Wl.path (k := 2) [1] (C := [r ≠ 0]) (pc' := 1534) (ls' := [some (.inr (.inr (51, 0))), some (.inr (.inr (9, 0))), some (.inr (.inr (10, 0))), some (.inr (.inr (50, 0))), some (.inl x), some (.inl r), some (.inl b)]) (st' := []) (M' := M2) rfl (c) ?_
    refine Wl.path (k := 3) [] (C := [inR (x + 6)]) (pc' := 23) (ls' := [some (.inr (.inr (51, 0))), some (.inr (.inr (9, 0))), some (.inr (.inr (10, 0))), some (.inr (.inr (50, 0))), some (.inl (x + 6)), some (.inl r), some (.inl b)]) (st' := []) (M' := M2) rfl (by unfold inR; omega : inR (x + 6)) ?_
    exact h.2.2 _ _
theorem lc_28 {n : Nat} {xs : Nat → Int} {q : Nat} {x : Int} {M : Mm} (h0 : 0 ≤ x) (h6 : x + 6 ≤ n) (h3 : n ≤ 3072) (h : E_929 M (fun (r : Int) (M1 : Mm) => E_1081 M1 (fun (b : Int) (M2 : Mm) => r = b ∧ Lw n xs q (x + 6) M2))) (o5 o6 : Option Vv) : Wl n xs (q + 1) 1537 [some (.inr (.inr (51, 0))), some (.inr (.inr (9, 0))), some (.inr (.inr (10, 0))), some (.inr (.inr (50, 0))), some (.inl x), o5, o6] [] M := by
  have up : ∀ {pc : Nat} {l : Ls} {st : List Vv} {M : Mm}, Wl n xs q pc l st M → Wl n xs (q + 1) pc l st M := fun ⟨q', M', a, b⟩ => ⟨q', M', by omega, b⟩
  apply up
  refine Wl.path (k := 1) [] (C := []) (pc' := 1538) (ls' := [some (.inr (.inr (51, 0))), some (.inr (.inr (9, 0))), some (.inr (.inr (10, 0))), some (.inr (.inr (50, 0))), some (.inl x), o5, o6]) (st' := [.inr (.inr (9, 0))]) (M' := M) rfl trivial ?_
  refine Wl.call h rfl rfl (by decide) ?_
  rintro _ M1 ⟨r, rfl, h⟩
  show Wl n xs q 1541 [some (.inr (.inr (51, 0))), some (.inr (.inr (9, 0))), some (.inr (.inr (10, 0))), some (.inr (.inr (50, 0))), some (.inl x), o5, o6] [.inl r] M1
  refine Wl.path (k := 1) [] (C := []) (pc' := 1542) (ls' := [some (.inr (.inr (51, 0))), some (.inr (.inr (9, 0))), some (.inr (.inr (10, 0))), some (.inr (.inr (50, 0))), some (.inl x), o5, o6]) (st' := [.inr (.inr (10, 0)), .inl r]) (M' := M1) rfl trivial ?_
  refine Wl.call h rfl rfl (by decide) ?_
  rintro _ M2 ⟨b, rfl, h⟩
  show Wl n xs q 1545 [some (.inr (.inr (51, 0))), some (.inr (.inr (9, 0))), some (.inr (.inr (10, 0))), some (.inr (.inr (50, 0))), some (.inl x), o5, o6] [.inl b, .inl r] M2
  refine Wl.path (k := 3) [1] (C := [r = b, inR (x + 6)]) (pc' := 23) (ls' := [some (.inr (.inr (51, 0))), some (.inr (.inr (9, 0))), some (.inr (.inr (10, 0))), some (.inr (.inr (50, 0))), some (.inl (x + 6)), o5, o6]) (st' := []) (M' := M2) rfl ⟨h.1, (by unfold inR; omega : inR (x + 6))⟩ ?_
  exact h.2 _ _
theorem lc_29 {n : Nat} {xs : Nat → Int} {q : Nat} {x : Int} {M : Mm} (h0 : 0 ≤ x) (h6 : x + 6 ≤ n) (h3 : n ≤ 3072) (h : W_1218 (xs (x + 1).toNat) (xs (x + 2).toNat) M (fun (r : Int) (M1 : Mm) => E_1082 (xs (x + 1).toNat) (xs (x + 2).toNat) M1 (fun (b : Int) (M2 : Mm) => M2.1 10 0 0 = r ∧ (r = 0 → M2.2 50 0 0 = (Int32.ofInt b).toInt64) ∧ Lw n xs q (x + 6) M2))) (o5 o6 : Option Vv) : Wl n xs (q + 1) 1550 [some (.inr (.inr (51, 0))), some (.inr (.inr (9, 0))), some (.inr (.inr (10, 0))), some (.inr (.inr (50, 0))), some (.inl x), o5, o6] [] M := by
  refine Wl.path (k := 12) [] (C := [inR (x + 1), 0 ≤ x + 1 ∧ x + 1 < (n : Int), inR (x + 2), 0 ≤ x + 2 ∧ x + 2 < (n : Int)]) (pc' := 1564) (ls' := [some (.inr (.inr (51, 0))), some (.inr (.inr (9, 0))), some (.inr (.inr (10, 0))), some (.inr (.inr (50, 0))), some (.inl x), o5, o6]) (st' := [.inr (.inr (50, 0)), .inl (xs (x + 2).toNat), .inl (xs (x + 1).toNat), .inr (.inr (9, 0))]) (M' := M) rfl ⟨(by unfold inR; omega : inR (x + 1)), (by omega : 0 ≤ x + 1 ∧ x + 1 < (n : Int)), (by unfold inR; omega : inR (x + 2)), (by omega : 0 ≤ x + 2 ∧ x + 2 < (n : Int))⟩ ?_
  refine Wl.callw h rfl rfl (by decide) ?_
  rintro _ M1 ⟨r, rfl, h⟩
  show Wl n xs q 1567 [some (.inr (.inr (51, 0))), some (.inr (.inr (9, 0))), some (.inr (.inr (10, 0))), some (.inr (.inr (50, 0))), some (.inl x), o5, o6] [.inl r] M1
  refine Wl.path (k := 12) [] (C := [inR (x + 1), 0 ≤ x + 1 ∧ x + 1 < (n : Int), inR (x + 2), 0 ≤ x + 2 ∧ x + 2 < (n : Int)]) (pc' := 1582) (ls' := [some (.inr (.inr (51, 0))), some (.inr (.inr (9, 0))), some (.inr (.inr (10, 0))), some (.inr (.inr (50, 0))), some (.inl x), some (.inl r), o6]) (st' := [.inl (xs (x + 2).toNat), .inl (xs (x + 1).toNat), .inr (.inr (10, 0))]) (M' := M1) rfl ⟨(by unfold inR; omega : inR (x + 1)), (by omega : 0 ≤ x + 1 ∧ x + 1 < (n : Int)), (by unfold inR; omega : inR (x + 2)), (by omega : 0 ≤ x + 2 ∧ x + 2 < (n : Int))⟩ ?_
  refine Wl.call h rfl rfl (by decide) ?_
  rintro _ M2 ⟨b, rfl, h⟩
  show Wl n xs q 1585 [some (.inr (.inr (51, 0))), some (.inr (.inr (9, 0))), some (.inr (.inr (10, 0))), some (.inr (.inr (50, 0))), some (.inl x), some (.inl r), o6] [.inl b] M2
  refine Wl.path (k := 2) [] (C := []) (pc' := 1588) (ls' := [some (.inr (.inr (51, 0))), some (.inr (.inr (9, 0))), some (.inr (.inr (10, 0))), some (.inr (.inr (50, 0))), some (.inl x), some (.inl r), some (.inl b)]) (st' := [.inr (.inr (10, 0))]) (M' := M2) rfl trivial ?_
  refine Wl.call e1001 rfl rfl (by decide) ?_
  rintro _ _ ⟨rfl, rfl⟩
  rename_i M2
  show Wl n xs q 1591 [some (.inr (.inr (51, 0))), some (.inr (.inr (9, 0))), some (.inr (.inr (10, 0))), some (.inr (.inr (50, 0))), some (.inl x), some (.inl r), some (.inl b)] [.inl (M2.1 10 0 0)] M2
  refine Wl.path (k := 2) [1] (C := [M2.1 10 0 0 = r]) (pc' := 1598) (ls' := [some (.inr (.inr (51, 0))), some (.inr (.inr (9, 0))), some (.inr (.inr (10, 0))), some (.inr (.inr (50, 0))), some (.inl x), some (.inl r), some (.inl b)]) (st' := []) (M' := M2) rfl (h.1) ?_
  rcases Decidable.em (r = 0) with c | c
  · refine Wl.path (k := 9) [0, 1] (C := [r = 0, (0 : Int) ≤ 0 ∧ (0 : Int) < (1 : Nat), lcm (M2.2 50 0 0) ((Int32.ofInt b).toInt64) = 0]) (pc' := 1615) (ls' := [some (.inr (.inr (51, 0))), some (.inr (.inr (9, 0))), some (.inr (.inr (10, 0))), some (.inr (.inr (50, 0))), some (.inl x), some (.inl r), some (.inl b)]) (st' := []) (M' := M2) rfl ⟨c, ⟨by decide, by decide⟩, (lcm_p _ _).mpr (h.2.1 c)⟩ ?_
    refine Wl.path (k := 3) [] (C := [inR (x + 6)]) (pc' := 23) (ls' := [some (.inr (.inr (51, 0))), some (.inr (.inr (9, 0))), some (.inr (.inr (10, 0))), some (.inr (.inr (50, 0))), some (.inl (x + 6)), some (.inl r), some (.inl b)]) (st' := []) (M' := M2) rfl (by unfold inR; omega : inR (x + 6)) ?_
    exact h.2.2 _ _
  · refine Wl.path (k := 2) [1] (C := [r ≠ 0]) (pc' := 1615) (ls' := [some (.inr (.inr (51, 0))), some (.inr (.inr (9, 0))), some (.inr (.inr (10, 0))), some (.inr (.inr (50, 0))), some (.inl x), some (.inl r), some (.inl b)]) (st' := []) (M' := M2) rfl (c) ?_
    refine Wl.path (k := 3) [] (C := [inR (x + 6)]) (pc' := 23) (ls' := [some (.inr (.inr (51, 0))), some (.inr (.inr (9, 0))), some (.inr (.inr (10, 0))), some (.inr (.inr (50, 0))), some (.inl (x + 6)), some (.inl r), some (.inl b)]) (st' := []) (M' := M2) rfl (by unfold inR; omega : inR (x + 6)) ?_
    exact h.2.2 _ _
theorem lc_30 {n : Nat} {xs : Nat → Int} {q : Nat} {x : Int} {M : Mm} (h0 : 0 ≤ x) (h6 : x + 6 ≤ n) (h3 : n ≤ 3072) (h : W_1219 (xs (x + 1).toNat) (xs (x + 2).toNat) (xs (x + 3).toNat) (xs (x + 4).toNat) M (fun (r : Int) (M1 : Mm) => E_1084 (xs (x + 1).toNat) (xs (x + 2).toNat) (xs (x + 3).toNat) (xs (x + 4).toNat) M1 (fun (b : Int) (M2 : Mm) => M2.1 10 0 0 = r ∧ (r = 0 → M2.2 50 0 0 = (Int32.ofInt b).toInt64) ∧ Lw n xs q (x + 6) M2))) (o5 o6 : Option Vv) : Wl n xs (q + 1) 1618 [some (.inr (.inr (51, 0))), some (.inr (.inr (9, 0))), some (.inr (.inr (10, 0))), some (.inr (.inr (50, 0))), some (.inl x), o5, o6] [] M := by
  refine Wl.path (k := 22) [] (C := [inR (x + 1), 0 ≤ x + 1 ∧ x + 1 < (n : Int), inR (x + 2), 0 ≤ x + 2 ∧ x + 2 < (n : Int), inR (x + 3), 0 ≤ x + 3 ∧ x + 3 < (n : Int), inR (x + 4), 0 ≤ x + 4 ∧ x + 4 < (n : Int)]) (pc' := 1644) (ls' := [some (.inr (.inr (51, 0))), some (.inr (.inr (9, 0))), some (.inr (.inr (10, 0))), some (.inr (.inr (50, 0))), some (.inl x), o5, o6]) (st' := [.inr (.inr (50, 0)), .inl (xs (x + 4).toNat), .inl (xs (x + 3).toNat), .inl (xs (x + 2).toNat), .inl (xs (x + 1).toNat), .inr (.inr (9, 0))]) (M' := M) rfl ⟨(by unfold inR; omega : inR (x + 1)), (by omega : 0 ≤ x + 1 ∧ x + 1 < (n : Int)), (by unfold inR; omega : inR (x + 2)), (by omega : 0 ≤ x + 2 ∧ x + 2 < (n : Int)), (by unfold inR; omega : inR (x + 3)), (by omega : 0 ≤ x + 3 ∧ x + 3 < (n : Int)), (by unfold inR; omega : inR (x + 4)), (by omega : 0 ≤ x + 4 ∧ x + 4 < (n : Int))⟩ ?_
  refine Wl.callw h rfl rfl (by decide) ?_
  rintro _ M1 ⟨r, rfl, h⟩
  show Wl n xs q 1647 [some (.inr (.inr (51, 0))), some (.inr (.inr (9, 0))), some (.inr (.inr (10, 0))), some (.inr (.inr (50, 0))), some (.inl x), o5, o6] [.inl r] M1
  refine Wl.path (k := 22) [] (C := [inR (x + 1), 0 ≤ x + 1 ∧ x + 1 < (n : Int), inR (x + 2), 0 ≤ x + 2 ∧ x + 2 < (n : Int), inR (x + 3), 0 ≤ x + 3 ∧ x + 3 < (n : Int), inR (x + 4), 0 ≤ x + 4 ∧ x + 4 < (n : Int)]) (pc' := 1674) (ls' := [some (.inr (.inr (51, 0))), some (.inr (.inr (9, 0))), some (.inr (.inr (10, 0))), some (.inr (.inr (50, 0))), some (.inl x), some (.inl r), o6]) (st' := [.inl (xs (x + 4).toNat), .inl (xs (x + 3).toNat), .inl (xs (x + 2).toNat), .inl (xs (x + 1).toNat), .inr (.inr (10, 0))]) (M' := M1) rfl ⟨(by unfold inR; omega : inR (x + 1)), (by omega : 0 ≤ x + 1 ∧ x + 1 < (n : Int)), (by unfold inR; omega : inR (x + 2)), (by omega : 0 ≤ x + 2 ∧ x + 2 < (n : Int)), (by unfold inR; omega : inR (x + 3)), (by omega : 0 ≤ x + 3 ∧ x + 3 < (n : Int)), (by unfold inR; omega : inR (x + 4)), (by omega : 0 ≤ x + 4 ∧ x + 4 < (n : Int))⟩ ?_
  refine Wl.call h rfl rfl (by decide) ?_
  rintro _ M2 ⟨b, rfl, h⟩
  show Wl n xs q 1677 [some (.inr (.inr (51, 0))), some (.inr (.inr (9, 0))), some (.inr (.inr (10, 0))), some (.inr (.inr (50, 0))), some (.inl x), some (.inl r), o6] [.inl b] M2
  refine Wl.path (k := 2) [] (C := []) (pc' := 1680) (ls' := [some (.inr (.inr (51, 0))), some (.inr (.inr (9, 0))), some (.inr (.inr (10, 0))), some (.inr (.inr (50, 0))), some (.inl x), some (.inl r), some (.inl b)]) (st' := [.inr (.inr (10, 0))]) (M' := M2) rfl trivial ?_
  refine Wl.call e1001 rfl rfl (by decide) ?_
  rintro _ _ ⟨rfl, rfl⟩
  rename_i M2
  show Wl n xs q 1683 [some (.inr (.inr (51, 0))), some (.inr (.inr (9, 0))), some (.inr (.inr (10, 0))), some (.inr (.inr (50, 0))), some (.inl x), some (.inl r), some (.inl b)] [.inl (M2.1 10 0 0)] M2
  refine Wl.path (k := 2) [1] (C := [M2.1 10 0 0 = r]) (pc' := 1690) (ls' := [some (.inr (.inr (51, 0))), some (.inr (.inr (9, 0))), some (.inr (.inr (10, 0))), some (.inr (.inr (50, 0))), some (.inl x), some (.inl r), some (.inl b)]) (st' := []) (M' := M2) rfl (h.1) ?_
  rcases Decidable.em (r = 0) with c | c
  · refine Wl.path (k := 9) [0, 1] (C := [r = 0, (0 : Int) ≤ 0 ∧ (0 : Int) < (1 : Nat), lcm (M2.2 50 0 0) ((Int32.ofInt b).toInt64) = 0]) (pc' := 1707) (ls' := [some (.inr (.inr (51, 0))), some (.inr (.inr (9, 0))), some (.inr (.inr (10, 0))), some (.inr (.inr (50, 0))), some (.inl x), some (.inl r), some (.inl b)]) (st' := []) (M' := M2) rfl ⟨c, ⟨by decide, by decide⟩, (lcm_p _ _).mpr (h.2.1 c)⟩ ?_
    refine Wl.path (k := 3) [] (C := [inR (x + 6)]) (pc' := 23) (ls' := [some (.inr (.inr (51, 0))), some (.inr (.inr (9, 0))), some (.inr (.inr (10, 0))), some (.inr (.inr (50, 0))), some (.inl (x + 6)), some (.inl r), some (.inl b)]) (st' := []) (M' := M2) rfl (by unfold inR; omega : inR (x + 6)) ?_
    exact h.2.2 _ _
  · refine Wl.path (k := 2) [1] (C := [r ≠ 0]) (pc' := 1707) (ls' := [some (.inr (.inr (51, 0))), some (.inr (.inr (9, 0))), some (.inr (.inr (10, 0))), some (.inr (.inr (50, 0))), some (.inl x), some (.inl r), some (.inl b)]) (st' := []) (M' := M2) rfl (c) ?_
    refine Wl.path (k := 3) [] (C := [inR (x + 6)]) (pc' := 23) (ls' := [some (.inr (.inr (51, 0))), some (.inr (.inr (9, 0))), some (.inr (.inr (10, 0))), some (.inr (.inr (50, 0))), some (.inl (x + 6)), some (.inl r), some (.inl b)]) (st' := []) (M' := M2) rfl (by unfold inR; omega : inR (x + 6)) ?_
    exact h.2.2 _ _
theorem lc_31 {n : Nat} {xs : Nat → Int} {q : Nat} {x : Int} {M : Mm} (h0 : 0 ≤ x) (h6 : x + 6 ≤ n) (h3 : n ≤ 3072) (h : W_1220 (xs (x + 1).toNat) (xs (x + 2).toNat) (xs (x + 3).toNat) (xs (x + 4).toNat) (xs (x + 5).toNat) M (fun (r : Int) (M1 : Mm) => E_1085 (xs (x + 1).toNat) (xs (x + 2).toNat) (xs (x + 3).toNat) (xs (x + 4).toNat) (xs (x + 5).toNat) M1 (fun (b : Int) (M2 : Mm) => M2.1 10 0 0 = r ∧ (r = 0 → M2.2 50 0 0 = (Int32.ofInt b).toInt64) ∧ Lw n xs q (x + 6) M2))) (o5 o6 : Option Vv) : Wl n xs (q + 1) 1710 [some (.inr (.inr (51, 0))), some (.inr (.inr (9, 0))), some (.inr (.inr (10, 0))), some (.inr (.inr (50, 0))), some (.inl x), o5, o6] [] M := by
  refine Wl.path (k := 27) [] (C := [inR (x + 1), 0 ≤ x + 1 ∧ x + 1 < (n : Int), inR (x + 2), 0 ≤ x + 2 ∧ x + 2 < (n : Int), inR (x + 3), 0 ≤ x + 3 ∧ x + 3 < (n : Int), inR (x + 4), 0 ≤ x + 4 ∧ x + 4 < (n : Int), inR (x + 5), 0 ≤ x + 5 ∧ x + 5 < (n : Int)]) (pc' := 1742) (ls' := [some (.inr (.inr (51, 0))), some (.inr (.inr (9, 0))), some (.inr (.inr (10, 0))), some (.inr (.inr (50, 0))), some (.inl x), o5, o6]) (st' := [.inr (.inr (50, 0)), .inl (xs (x + 5).toNat), .inl (xs (x + 4).toNat), .inl (xs (x + 3).toNat), .inl (xs (x + 2).toNat), .inl (xs (x + 1).toNat), .inr (.inr (9, 0))]) (M' := M) rfl ⟨(by unfold inR; omega : inR (x + 1)), (by omega : 0 ≤ x + 1 ∧ x + 1 < (n : Int)), (by unfold inR; omega : inR (x + 2)), (by omega : 0 ≤ x + 2 ∧ x + 2 < (n : Int)), (by unfold inR; omega : inR (x + 3)), (by omega : 0 ≤ x + 3 ∧ x + 3 < (n : Int)), (by unfold inR; omega : inR (x + 4)), (by omega : 0 ≤ x + 4 ∧ x + 4 < (n : Int)), (by unfold inR; omega : inR (x + 5)), (by omega : 0 ≤ x + 5 ∧ x + 5 < (n : Int))⟩ ?_
  refine Wl.callw h rfl rfl (by decide) ?_
  rintro _ M1 ⟨r, rfl, h⟩
  show Wl n xs q 1745 [some (.inr (.inr (51, 0))), some (.inr (.inr (9, 0))), some (.inr (.inr (10, 0))), some (.inr (.inr (50, 0))), some (.inl x), o5, o6] [.inl r] M1
  refine Wl.path (k := 27) [] (C := [inR (x + 1), 0 ≤ x + 1 ∧ x + 1 < (n : Int), inR (x + 2), 0 ≤ x + 2 ∧ x + 2 < (n : Int), inR (x + 3), 0 ≤ x + 3 ∧ x + 3 < (n : Int), inR (x + 4), 0 ≤ x + 4 ∧ x + 4 < (n : Int), inR (x + 5), 0 ≤ x + 5 ∧ x + 5 < (n : Int)]) (pc' := 1778) (ls' := [some (.inr (.inr (51, 0))), some (.inr (.inr (9, 0))), some (.inr (.inr (10, 0))), some (.inr (.inr (50, 0))), some (.inl x), some (.inl r), o6]) (st' := [.inl (xs (x + 5).toNat), .inl (xs (x + 4).toNat), .inl (xs (x + 3).toNat), .inl (xs (x + 2).toNat), .inl (xs (x + 1).toNat), .inr (.inr (10, 0))]) (M' := M1) rfl ⟨(by unfold inR; omega : inR (x + 1)), (by omega : 0 ≤ x + 1 ∧ x + 1 < (n : Int)), (by unfold inR; omega : inR (x + 2)), (by omega : 0 ≤ x + 2 ∧ x + 2 < (n : Int)), (by unfold inR; omega : inR (x + 3)), (by omega : 0 ≤ x + 3 ∧ x + 3 < (n : Int)), (by unfold inR; omega : inR (x + 4)), (by omega : 0 ≤ x + 4 ∧ x + 4 < (n : Int)), (by unfold inR; omega : inR (x + 5)), (by omega : 0 ≤ x + 5 ∧ x + 5 < (n : Int))⟩ ?_
  refine Wl.call h rfl rfl (by decide) ?_
  rintro _ M2 ⟨b, rfl, h⟩
  show Wl n xs q 1781 [some (.inr (.inr (51, 0))), some (.inr (.inr (9, 0))), some (.inr (.inr (10, 0))), some (.inr (.inr (50, 0))), some (.inl x), some (.inl r), o6] [.inl b] M2
  refine Wl.path (k := 2) [] (C := []) (pc' := 1784) (ls' := [some (.inr (.inr (51, 0))), some (.inr (.inr (9, 0))), some (.inr (.inr (10, 0))), some (.inr (.inr (50, 0))), some (.inl x), some (.inl r), some (.inl b)]) (st' := [.inr (.inr (10, 0))]) (M' := M2) rfl trivial ?_
  refine Wl.call e1001 rfl rfl (by decide) ?_
  rintro _ _ ⟨rfl, rfl⟩
  rename_i M2
  show Wl n xs q 1787 [some (.inr (.inr (51, 0))), some (.inr (.inr (9, 0))), some (.inr (.inr (10, 0))), some (.inr (.inr (50, 0))), some (.inl x), some (.inl r), some (.inl b)] [.inl (M2.1 10 0 0)] M2
  refine Wl.path (k := 2) [1] (C := [M2.1 10 0 0 = r]) (pc' := 1794) (ls' := [some (.inr (.inr (51, 0))), some (.inr (.inr (9, 0))), some (.inr (.inr (10, 0))), some (.inr (.inr (50, 0))), some (.inl x), some (.inl r), some (.inl b)]) (st' := []) (M' := M2) rfl (h.1) ?_
  rcases Decidable.em (r = 0) with c | c
  · refine Wl.path (k := 9) [0, 1] (C := [r = 0, (0 : Int) ≤ 0 ∧ (0 : Int) < (1 : Nat), lcm (M2.2 50 0 0) ((Int32.ofInt b).toInt64) = 0]) (pc' := 1811) (ls' := [some (.inr (.inr (51, 0))), some (.inr (.inr (9, 0))), some (.inr (.inr (10, 0))), some (.inr (.inr (50, 0))), some (.inl x), some (.inl r), some (.inl b)]) (st' := []) (M' := M2) rfl ⟨c, ⟨by decide, by decide⟩, (lcm_p _ _).mpr (h.2.1 c)⟩ ?_
    refine Wl.path (k := 3) [] (C := [inR (x + 6)]) (pc' := 23) (ls' := [some (.inr (.inr (51, 0))), some (.inr (.inr (9, 0))), some (.inr (.inr (10, 0))), some (.inr (.inr (50, 0))), some (.inl (x + 6)), some (.inl r), some (.inl b)]) (st' := []) (M' := M2) rfl (by unfold inR; omega : inR (x + 6)) ?_
    exact h.2.2 _ _
  · refine Wl.path (k := 2) [1] (C := [r ≠ 0]) (pc' := 1811) (ls' := [some (.inr (.inr (51, 0))), some (.inr (.inr (9, 0))), some (.inr (.inr (10, 0))), some (.inr (.inr (50, 0))), some (.inl x), some (.inl r), some (.inl b)]) (st' := []) (M' := M2) rfl (c) ?_
    refine Wl.path (k := 3) [] (C := [inR (x + 6)]) (pc' := 23) (ls' := [some (.inr (.inr (51, 0))), some (.inr (.inr (9, 0))), some (.inr (.inr (10, 0))), some (.inr (.inr (50, 0))), some (.inl (x + 6)), some (.inl r), some (.inl b)]) (st' := []) (M' := M2) rfl (by unfold inR; omega : inR (x + 6)) ?_
    exact h.2.2 _ _
theorem lc_32 {n : Nat} {xs : Nat → Int} {q : Nat} {x : Int} {M : Mm} (h0 : 0 ≤ x) (h6 : x + 6 ≤ n) (h3 : n ≤ 3072) (h : W_1221 (xs (x + 1).toNat) M (fun (r : Int) (M1 : Mm) => E_1086 (xs (x + 1).toNat) M1 (fun (b : Int) (M2 : Mm) => M2.1 10 0 0 = r ∧ (r = 0 → M2.2 50 0 0 = (Int32.ofInt b).toInt64) ∧ Lw n xs q (x + 6) M2))) (o5 o6 : Option Vv) : Wl n xs (q + 1) 1814 [some (.inr (.inr (51, 0))), some (.inr (.inr (9, 0))), some (.inr (.inr (10, 0))), some (.inr (.inr (50, 0))), some (.inl x), o5, o6] [] M := by
  refine Wl.path (k := 7) [] (C := [inR (x + 1), 0 ≤ x + 1 ∧ x + 1 < (n : Int)]) (pc' := 1822) (ls' := [some (.inr (.inr (51, 0))), some (.inr (.inr (9, 0))), some (.inr (.inr (10, 0))), some (.inr (.inr (50, 0))), some (.inl x), o5, o6]) (st' := [.inr (.inr (50, 0)), .inl (xs (x + 1).toNat), .inr (.inr (9, 0))]) (M' := M) rfl ⟨(by unfold inR; omega : inR (x + 1)), (by omega : 0 ≤ x + 1 ∧ x + 1 < (n : Int))⟩ ?_
  refine Wl.callw h rfl rfl (by decide) ?_
  rintro _ M1 ⟨r, rfl, h⟩
  show Wl n xs q 1825 [some (.inr (.inr (51, 0))), some (.inr (.inr (9, 0))), some (.inr (.inr (10, 0))), some (.inr (.inr (50, 0))), some (.inl x), o5, o6] [.inl r] M1
  refine Wl.path (k := 7) [] (C := [inR (x + 1), 0 ≤ x + 1 ∧ x + 1 < (n : Int)]) (pc' := 1834) (ls' := [some (.inr (.inr (51, 0))), some (.inr (.inr (9, 0))), some (.inr (.inr (10, 0))), some (.inr (.inr (50, 0))), some (.inl x), some (.inl r), o6]) (st' := [.inl (xs (x + 1).toNat), .inr (.inr (10, 0))]) (M' := M1) rfl ⟨(by unfold inR; omega : inR (x + 1)), (by omega : 0 ≤ x + 1 ∧ x + 1 < (n : Int))⟩ ?_
  refine Wl.call h rfl rfl (by decide) ?_
  rintro _ M2 ⟨b, rfl, h⟩
  show Wl n xs q 1837 [some (.inr (.inr (51, 0))), some (.inr (.inr (9, 0))), some (.inr (.inr (10, 0))), some (.inr (.inr (50, 0))), some (.inl x), some (.inl r), o6] [.inl b] M2
  refine Wl.path (k := 2) [] (C := []) (pc' := 1840) (ls' := [some (.inr (.inr (51, 0))), some (.inr (.inr (9, 0))), some (.inr (.inr (10, 0))), some (.inr (.inr (50, 0))), some (.inl x), some (.inl r), some (.inl b)]) (st' := [.inr (.inr (10, 0))]) (M' := M2) rfl trivial ?_
  refine Wl.call e1001 rfl rfl (by decide) ?_
  rintro _ _ ⟨rfl, rfl⟩
  rename_i M2
  show Wl n xs q 1843 [some (.inr (.inr (51, 0))), some (.inr (.inr (9, 0))), some (.inr (.inr (10, 0))), some (.inr (.inr (50, 0))), some (.inl x), some (.inl r), some (.inl b)] [.inl (M2.1 10 0 0)] M2
  refine Wl.path (k := 2) [1] (C := [M2.1 10 0 0 = r]) (pc' := 1850) (ls' := [some (.inr (.inr (51, 0))), some (.inr (.inr (9, 0))), some (.inr (.inr (10, 0))), some (.inr (.inr (50, 0))), some (.inl x), some (.inl r), some (.inl b)]) (st' := []) (M' := M2) rfl (h.1) ?_
  rcases Decidable.em (r = 0) with c | c
  · refine Wl.path (k := 9) [0, 1] (C := [r = 0, (0 : Int) ≤ 0 ∧ (0 : Int) < (1 : Nat), lcm (M2.2 50 0 0) ((Int32.ofInt b).toInt64) = 0]) (pc' := 1867) (ls' := [some (.inr (.inr (51, 0))), some (.inr (.inr (9, 0))), some (.inr (.inr (10, 0))), some (.inr (.inr (50, 0))), some (.inl x), some (.inl r), some (.inl b)]) (st' := []) (M' := M2) rfl ⟨c, ⟨by decide, by decide⟩, (lcm_p _ _).mpr (h.2.1 c)⟩ ?_
    refine Wl.path (k := 3) [] (C := [inR (x + 6)]) (pc' := 23) (ls' := [some (.inr (.inr (51, 0))), some (.inr (.inr (9, 0))), some (.inr (.inr (10, 0))), some (.inr (.inr (50, 0))), some (.inl (x + 6)), some (.inl r), some (.inl b)]) (st' := []) (M' := M2) rfl (by unfold inR; omega : inR (x + 6)) ?_
    exact h.2.2 _ _
  · refine Wl.path (k := 2) [1] (C := [r ≠ 0]) (pc' := 1867) (ls' := [some (.inr (.inr (51, 0))), some (.inr (.inr (9, 0))), some (.inr (.inr (10, 0))), some (.inr (.inr (50, 0))), some (.inl x), some (.inl r), some (.inl b)]) (st' := []) (M' := M2) rfl (c) ?_
    refine Wl.path (k := 3) [] (C := [inR (x + 6)]) (pc' := 23) (ls' := [some (.inr (.inr (51, 0))), some (.inr (.inr (9, 0))), some (.inr (.inr (10, 0))), some (.inr (.inr (50, 0))), some (.inl (x + 6)), some (.inl r), some (.inl b)]) (st' := []) (M' := M2) rfl (by unfold inR; omega : inR (x + 6)) ?_
    exact h.2.2 _ _
theorem l_head {n : Nat} {xs : Nat → Int} {q : Nat} {x : Int} {M : Mm} (h0 : 0 ≤ x) (hx : x ≤ 4000) (h3 : n ≤ 3072) (h : x + 6 ≤ n → (ian (xs x.toNat) 63 = 0 → W_1200 (xs (x + 1).toNat) (xs (x + 2).toNat) (xs (x + 3).toNat) (xs (x + 4).toNat) (xs (x + 5).toNat) M (fun (r : Int) (M1 : Mm) => E_1010 (xs (x + 1).toNat) (xs (x + 2).toNat) (xs (x + 3).toNat) (xs (x + 4).toNat) (xs (x + 5).toNat) M1 (fun (b : Int) (M2 : Mm) => M2.1 10 0 0 = r ∧ (r = 0 → M2.2 50 0 0 = (Int32.ofInt b).toInt64) ∧ Lw n xs q (x + 6) M2))) ∧ (ian (xs x.toNat) 63 = 1 → E_902 M (fun (r : Int) (M1 : Mm) => E_1011 M1 (fun (b : Int) (M2 : Mm) => r = b ∧ Lw n xs q (x + 6) M2))) ∧ (ian (xs x.toNat) 63 = 2 → W_1201 (xs (x + 1).toNat) M (fun (r : Int) (M1 : Mm) => E_1016 (xs (x + 1).toNat) M1 (fun (b : Int) (M2 : Mm) => M2.1 10 0 0 = r ∧ (r = 0 → M2.2 50 0 0 = (Int32.ofInt b).toInt64) ∧ Lw n xs q (x + 6) M2))) ∧ (ian (xs x.toNat) 63 = 3 → W_1202 M (fun (r : Int) (M1 : Mm) => E_1022 M1 (fun (b : Int) (M2 : Mm) => M2.1 10 0 0 = r ∧ (r = 0 → M2.2 50 0 0 = (Int32.ofInt b).toInt64) ∧ Lw n xs q (x + 6) M2))) ∧ (ian (xs x.toNat) 63 = 4 → E_905 M (fun (r : Int) (M1 : Mm) => E_1023 M1 (fun (b : Int) (M2 : Mm) => r = b ∧ Lw n xs q (x + 6) M2))) ∧ (ian (xs x.toNat) 63 = 5 → W_1203 M (fun (r : Int) (M1 : Mm) => E_1012 M1 (fun (b : Int) (M2 : Mm) => M2.1 10 0 0 = r ∧ (r = 0 → M2.2 50 0 0 = (Int32.ofInt b).toInt64) ∧ Lw n xs q (x + 6) M2))) ∧ (ian (xs x.toNat) 63 = 6 → W_1204 M (fun (r : Int) (M1 : Mm) => E_1013 M1 (fun (b : Int) (M2 : Mm) => M2.1 10 0 0 = r ∧ (r = 0 → M2.2 50 0 0 = (Int32.ofInt b).toInt64) ∧ Lw n xs q (x + 6) M2))) ∧ (ian (xs x.toNat) 63 = 7 → E_908 M (fun (r : Int) (M1 : Mm) => E_1014 M1 (fun (b : Int) (M2 : Mm) => r = b ∧ Lw n xs q (x + 6) M2))) ∧ (ian (xs x.toNat) 63 = 8 → W_1205 M (fun (r : Int) (M1 : Mm) => E_1015 M1 (fun (b : Int) (M2 : Mm) => M2.1 10 0 0 = r ∧ (r = 0 → M2.2 50 0 0 = (Int32.ofInt b).toInt64) ∧ Lw n xs q (x + 6) M2))) ∧ (ian (xs x.toNat) 63 = 9 → W_1206 (xs (x + 1).toNat) (xs (x + 2).toNat) M (fun (r : Int) (M1 : Mm) => E_1024 (xs (x + 1).toNat) (xs (x + 2).toNat) M1 (fun (b : Int) (M2 : Mm) => M2.1 10 0 0 = r ∧ (r = 0 → M2.2 50 0 0 = (if b = 0 then Int64.ofNat 0 else Int64.ofNat 1)) ∧ Lw n xs q (x + 6) M2))) ∧ (ian (xs x.toNat) 63 = 10 → E_911 M (fun (r : Int) (M1 : Mm) => E_1051 M1 (fun (b : Int) (M2 : Mm) => r = b ∧ Lw n xs q (x + 6) M2))) ∧ (ian (xs x.toNat) 63 = 11 → W_1207 (xs (x + 1).toNat) (xs (x + 2).toNat) M (fun (r : Int) (M1 : Mm) => E_1052 (xs (x + 1).toNat) (xs (x + 2).toNat) M1 (fun (b : Int) (M2 : Mm) => M2.1 10 0 0 = r ∧ (r = 0 → M2.2 50 0 0 = (Int32.ofInt b).toInt64) ∧ Lw n xs q (x + 6) M2))) ∧ (ian (xs x.toNat) 63 = 12 → E_913 M (fun (r : Int) (M1 : Mm) => E_1053 M1 (fun (b : Int) (M2 : Mm) => r = b ∧ Lw n xs q (x + 6) M2))) ∧ (ian (xs x.toNat) 63 = 13 → E_914 M (fun (r : Int) (M1 : Mm) => E_1056 M1 (fun (b : Int) (M2 : Mm) => r = b ∧ Lw n xs q (x + 6) M2))) ∧ (ian (xs x.toNat) 63 = 14 → W_1208 (xs (x + 1).toNat) (xs (x + 2).toNat) M (fun (r : Int) (M1 : Mm) => E_1057 (xs (x + 1).toNat) (xs (x + 2).toNat) M1 (fun (b : Int) (M2 : Mm) => M2.1 10 0 0 = r ∧ (r = 0 → M2.2 50 0 0 = (Int32.ofInt b).toInt64) ∧ Lw n xs q (x + 6) M2))) ∧ (ian (xs x.toNat) 63 = 15 → E_916 M (fun (r : Int) (M1 : Mm) => E_1061 M1 (fun (b : Int) (M2 : Mm) => r = b ∧ Lw n xs q (x + 6) M2))) ∧ (ian (xs x.toNat) 63 = 16 → W_1209 (xs (x + 1).toNat) (xs (x + 2).toNat) M (fun (r : Int) (M1 : Mm) => E_1062 (xs (x + 1).toNat) (xs (x + 2).toNat) M1 (fun (b : Int) (M2 : Mm) => M2.1 10 0 0 = r ∧ (r = 0 → M2.2 50 0 0 = (Int32.ofInt b).toInt64) ∧ Lw n xs q (x + 6) M2))) ∧ (ian (xs x.toNat) 63 = 17 → W_1210 (xs (x + 1).toNat) (xs (x + 2).toNat) M (fun (r : Int) (M1 : Mm) => E_1063 (xs (x + 1).toNat) (xs (x + 2).toNat) M1 (fun (b : Int) (M2 : Mm) => M2.1 10 0 0 = r ∧ (r = 0 → M2.2 50 0 0 = (Int32.ofInt b).toInt64) ∧ Lw n xs q (x + 6) M2))) ∧ (ian (xs x.toNat) 63 = 18 → W_1211 (xs (x + 1).toNat) M (fun (r : Int) (M1 : Mm) => E_1064 (xs (x + 1).toNat) M1 (fun (b : Int) (M2 : Mm) => M2.1 10 0 0 = r ∧ (r = 0 → M2.2 50 0 0 = (Int32.ofInt b).toInt64) ∧ Lw n xs q (x + 6) M2))) ∧ (ian (xs x.toNat) 63 = 19 → E_920 M (fun (r : Int) (M1 : Mm) => E_1066 M1 (fun (b : Int) (M2 : Mm) => r = b ∧ Lw n xs q (x + 6) M2))) ∧ (ian (xs x.toNat) 63 = 20 → E_921 M (fun (r : Int) (M1 : Mm) => E_1067 M1 (fun (b : Int) (M2 : Mm) => r = b ∧ Lw n xs q (x + 6) M2))) ∧ (ian (xs x.toNat) 63 = 21 → W_1212 (xs (x + 1).toNat) (xs (x + 2).toNat) M (fun (r : Int) (M1 : Mm) => E_1068 (xs (x + 1).toNat) (xs (x + 2).toNat) M1 (fun (b : Int) (M2 : Mm) => M2.1 10 0 0 = r ∧ (r = 0 → M2.2 50 0 0 = (Int32.ofInt b).toInt64) ∧ Lw n xs q (x + 6) M2))) ∧ (ian (xs x.toNat) 63 = 22 → W_1213 (xs (x + 1).toNat) (xs (x + 2).toNat) (xs (x + 3).toNat) M (fun (r : Int) (M1 : Mm) => E_1071 (xs (x + 1).toNat) (xs (x + 2).toNat) (xs (x + 3).toNat) M1 (fun (b : Int) (M2 : Mm) => M2.1 10 0 0 = r ∧ (r = 0 → M2.2 50 0 0 = (Int32.ofInt b).toInt64) ∧ Lw n xs q (x + 6) M2))) ∧ (ian (xs x.toNat) 63 = 23 → W_1214 (xs (x + 1).toNat) (xs (x + 2).toNat) (xs (x + 3).toNat) (xs (x + 4).toNat) M (fun (r : Int) (M1 : Mm) => E_1072 (xs (x + 1).toNat) (xs (x + 2).toNat) (xs (x + 3).toNat) (xs (x + 4).toNat) M1 (fun (b : Int) (M2 : Mm) => M2.1 10 0 0 = r ∧ (r = 0 → M2.2 50 0 0 = (Int32.ofInt b).toInt64) ∧ Lw n xs q (x + 6) M2))) ∧ (ian (xs x.toNat) 63 = 24 → W_1215 (xs (x + 1).toNat) (xs (x + 2).toNat) (xs (x + 3).toNat) (xs (x + 4).toNat) M (fun (r : Int) (M1 : Mm) => E_1073 (xs (x + 1).toNat) (xs (x + 2).toNat) (xs (x + 3).toNat) (xs (x + 4).toNat) M1 (fun (b : Int) (M2 : Mm) => M2.1 10 0 0 = r ∧ (r = 0 → M2.2 50 0 0 = (Int32.ofInt b).toInt64) ∧ Lw n xs q (x + 6) M2))) ∧ (ian (xs x.toNat) 63 = 25 → W_1216 (xs (x + 1).toNat) (xs (x + 2).toNat) (xs (x + 3).toNat) M (fun (r : Int) (M1 : Mm) => E_1075 (xs (x + 1).toNat) (xs (x + 2).toNat) (xs (x + 3).toNat) M1 (fun (b : Int) (M2 : Mm) => M2.1 10 0 0 = r ∧ (r = 0 → M2.2 50 0 0 = (Int32.ofInt b).toInt64) ∧ Lw n xs q (x + 6) M2))) ∧ (ian (xs x.toNat) 63 = 26 → E_927 M (fun (r : Int) (M1 : Mm) => E_1078 M1 (fun (b : Int) (M2 : Mm) => r = b ∧ Lw n xs q (x + 6) M2))) ∧ (ian (xs x.toNat) 63 = 27 → W_1217 (xs (x + 1).toNat) (xs (x + 2).toNat) M (fun (r : Int) (M1 : Mm) => E_1080 (xs (x + 1).toNat) (xs (x + 2).toNat) M1 (fun (b : Int) (M2 : Mm) => M2.1 10 0 0 = r ∧ (r = 0 → M2.2 50 0 0 = (Int32.ofInt b).toInt64) ∧ Lw n xs q (x + 6) M2))) ∧ (ian (xs x.toNat) 63 = 28 → E_929 M (fun (r : Int) (M1 : Mm) => E_1081 M1 (fun (b : Int) (M2 : Mm) => r = b ∧ Lw n xs q (x + 6) M2))) ∧ (ian (xs x.toNat) 63 = 29 → W_1218 (xs (x + 1).toNat) (xs (x + 2).toNat) M (fun (r : Int) (M1 : Mm) => E_1082 (xs (x + 1).toNat) (xs (x + 2).toNat) M1 (fun (b : Int) (M2 : Mm) => M2.1 10 0 0 = r ∧ (r = 0 → M2.2 50 0 0 = (Int32.ofInt b).toInt64) ∧ Lw n xs q (x + 6) M2))) ∧ (ian (xs x.toNat) 63 = 30 → W_1219 (xs (x + 1).toNat) (xs (x + 2).toNat) (xs (x + 3).toNat) (xs (x + 4).toNat) M (fun (r : Int) (M1 : Mm) => E_1084 (xs (x + 1).toNat) (xs (x + 2).toNat) (xs (x + 3).toNat) (xs (x + 4).toNat) M1 (fun (b : Int) (M2 : Mm) => M2.1 10 0 0 = r ∧ (r = 0 → M2.2 50 0 0 = (Int32.ofInt b).toInt64) ∧ Lw n xs q (x + 6) M2))) ∧ (ian (xs x.toNat) 63 = 31 → W_1220 (xs (x + 1).toNat) (xs (x + 2).toNat) (xs (x + 3).toNat) (xs (x + 4).toNat) (xs (x + 5).toNat) M (fun (r : Int) (M1 : Mm) => E_1085 (xs (x + 1).toNat) (xs (x + 2).toNat) (xs (x + 3).toNat) (xs (x + 4).toNat) (xs (x + 5).toNat) M1 (fun (b : Int) (M2 : Mm) => M2.1 10 0 0 = r ∧ (r = 0 → M2.2 50 0 0 = (Int32.ofInt b).toInt64) ∧ Lw n xs q (x + 6) M2))) ∧ (ian (xs x.toNat) 63 = 32 → W_1221 (xs (x + 1).toNat) M (fun (r : Int) (M1 : Mm) => E_1086 (xs (x + 1).toNat) M1 (fun (b : Int) (M2 : Mm) => M2.1 10 0 0 = r ∧ (r = 0 → M2.2 50 0 0 = (Int32.ofInt b).toInt64) ∧ Lw n xs q (x + 6) M2))) ∧ (¬ (0 ≤ ian (xs x.toNat) 63 ∧ ian (xs x.toNat) 63 ≤ 32) → Lw n xs q (x + 6) M)) : Lw n xs (q + 1) x M := by
  intro o5 o6
  rcases Int.lt_or_le ((n : Int) - 6) x with c | c
  · refine Wl.path (k := 6) [1] (C := [inR ((n : Int) - 6), (n : Int) - 6 < x]) (pc' := 1876) (ls' := [some (.inr (.inr (51, 0))), some (.inr (.inr (9, 0))), some (.inr (.inr (10, 0))), some (.inr (.inr (50, 0))), some (.inl x), o5, o6]) (st' := []) (M' := M) rfl ⟨(by unfold inR; omega : inR ((n : Int) - 6)), c⟩ ?_
    refine Wl.path (k := 1) [] (C := []) (pc' := 1877) (ls' := [some (.inr (.inr (51, 0))), some (.inr (.inr (9, 0))), some (.inr (.inr (10, 0))), some (.inr (.inr (50, 0))), some (.inl x), o5, o6]) (st' := [.inl 1]) (M' := M) rfl trivial ?_
    exact Wl.ret rfl
  replace h := h (by omega)
  refine Wl.path (k := 11) [0] (C := [inR ((n : Int) - 6), x ≤ (n : Int) - 6, 0 ≤ x ∧ x < (n : Int)]) (pc' := 40) (ls' := [some (.inr (.inr (51, 0))), some (.inr (.inr (9, 0))), some (.inr (.inr (10, 0))), some (.inr (.inr (50, 0))), some (.inl x), o5, o6]) (st' := [.inl (ian (xs x.toNat) 63)]) (M' := M) rfl ⟨(by unfold inR; omega : inR ((n : Int) - 6)), c, (by omega : 0 ≤ x ∧ x < (n : Int))⟩ ?_
  rcases Decidable.em (ian (xs x.toNat) 63 = 0) with c0 | c0
  · refine Wl.path (k := 1) [188] (C := [tswT 40 1830 0 32 #[148, 252, 265, 321, 365, 378, 422, 466, 479, 523, 598, 611, 679, 692, 705, 773, 786, 854, 922, 978, 991, 1004, 1072, 1152, 1244, 1336, 1416, 1429, 1497, 1510, 1578, 1670, 1774] (ian (xs x.toNat) 63) = 188]) (pc' := 188) (ls' := [some (.inr (.inr (51, 0))), some (.inr (.inr (9, 0))), some (.inr (.inr (10, 0))), some (.inr (.inr (50, 0))), some (.inl x), o5, o6]) (st' := []) (M' := M) rfl ((by rw [c0]; rfl : tswT 40 1830 0 32 #[148, 252, 265, 321, 365, 378, 422, 466, 479, 523, 598, 611, 679, 692, 705, 773, 786, 854, 922, 978, 991, 1004, 1072, 1152, 1244, 1336, 1416, 1429, 1497, 1510, 1578, 1670, 1774] (ian (xs x.toNat) 63) = 188)) ?_
    exact lc_0 h0 (by omega) h3 (h.1 c0) o5 o6
  replace h := h.2
  rcases Decidable.em (ian (xs x.toNat) 63 = 1) with c1 | c1
  · refine Wl.path (k := 1) [292] (C := [tswT 40 1830 0 32 #[148, 252, 265, 321, 365, 378, 422, 466, 479, 523, 598, 611, 679, 692, 705, 773, 786, 854, 922, 978, 991, 1004, 1072, 1152, 1244, 1336, 1416, 1429, 1497, 1510, 1578, 1670, 1774] (ian (xs x.toNat) 63) = 292]) (pc' := 292) (ls' := [some (.inr (.inr (51, 0))), some (.inr (.inr (9, 0))), some (.inr (.inr (10, 0))), some (.inr (.inr (50, 0))), some (.inl x), o5, o6]) (st' := []) (M' := M) rfl ((by rw [c1]; rfl : tswT 40 1830 0 32 #[148, 252, 265, 321, 365, 378, 422, 466, 479, 523, 598, 611, 679, 692, 705, 773, 786, 854, 922, 978, 991, 1004, 1072, 1152, 1244, 1336, 1416, 1429, 1497, 1510, 1578, 1670, 1774] (ian (xs x.toNat) 63) = 292)) ?_
    exact lc_1 h0 (by omega) h3 (h.1 c1) o5 o6
  replace h := h.2
  rcases Decidable.em (ian (xs x.toNat) 63 = 2) with c2 | c2
  · refine Wl.path (k := 1) [305] (C := [tswT 40 1830 0 32 #[148, 252, 265, 321, 365, 378, 422, 466, 479, 523, 598, 611, 679, 692, 705, 773, 786, 854, 922, 978, 991, 1004, 1072, 1152, 1244, 1336, 1416, 1429, 1497, 1510, 1578, 1670, 1774] (ian (xs x.toNat) 63) = 305]) (pc' := 305) (ls' := [some (.inr (.inr (51, 0))), some (.inr (.inr (9, 0))), some (.inr (.inr (10, 0))), some (.inr (.inr (50, 0))), some (.inl x), o5, o6]) (st' := []) (M' := M) rfl ((by rw [c2]; rfl : tswT 40 1830 0 32 #[148, 252, 265, 321, 365, 378, 422, 466, 479, 523, 598, 611, 679, 692, 705, 773, 786, 854, 922, 978, 991, 1004, 1072, 1152, 1244, 1336, 1416, 1429, 1497, 1510, 1578, 1670, 1774] (ian (xs x.toNat) 63) = 305)) ?_
    exact lc_2 h0 (by omega) h3 (h.1 c2) o5 o6
  replace h := h.2
  rcases Decidable.em (ian (xs x.toNat) 63 = 3) with c3 | c3
  · refine Wl.path (k := 1) [361] (C := [tswT 40 1830 0 32 #[148, 252, 265, 321, 365, 378, 422, 466, 479, 523, 598, 611, 679, 692, 705, 773, 786, 854, 922, 978, 991, 1004, 1072, 1152, 1244, 1336, 1416, 1429, 1497, 1510, 1578, 1670, 1774] (ian (xs x.toNat) 63) = 361]) (pc' := 361) (ls' := [some (.inr (.inr (51, 0))), some (.inr (.inr (9, 0))), some (.inr (.inr (10, 0))), some (.inr (.inr (50, 0))), some (.inl x), o5, o6]) (st' := []) (M' := M) rfl ((by rw [c3]; rfl : tswT 40 1830 0 32 #[148, 252, 265, 321, 365, 378, 422, 466, 479, 523, 598, 611, 679, 692, 705, 773, 786, 854, 922, 978, 991, 1004, 1072, 1152, 1244, 1336, 1416, 1429, 1497, 1510, 1578, 1670, 1774] (ian (xs x.toNat) 63) = 361)) ?_
    exact lc_3 h0 (by omega) h3 (h.1 c3) o5 o6
  replace h := h.2
  rcases Decidable.em (ian (xs x.toNat) 63 = 4) with c4 | c4
  · refine Wl.path (k := 1) [405] (C := [tswT 40 1830 0 32 #[148, 252, 265, 321, 365, 378, 422, 466, 479, 523, 598, 611, 679, 692, 705, 773, 786, 854, 922, 978, 991, 1004, 1072, 1152, 1244, 1336, 1416, 1429, 1497, 1510, 1578, 1670, 1774] (ian (xs x.toNat) 63) = 405]) (pc' := 405) (ls' := [some (.inr (.inr (51, 0))), some (.inr (.inr (9, 0))), some (.inr (.inr (10, 0))), some (.inr (.inr (50, 0))), some (.inl x), o5, o6]) (st' := []) (M' := M) rfl ((by rw [c4]; rfl : tswT 40 1830 0 32 #[148, 252, 265, 321, 365, 378, 422, 466, 479, 523, 598, 611, 679, 692, 705, 773, 786, 854, 922, 978, 991, 1004, 1072, 1152, 1244, 1336, 1416, 1429, 1497, 1510, 1578, 1670, 1774] (ian (xs x.toNat) 63) = 405)) ?_
    exact lc_4 h0 (by omega) h3 (h.1 c4) o5 o6
  replace h := h.2
  rcases Decidable.em (ian (xs x.toNat) 63 = 5) with c5 | c5
  · refine Wl.path (k := 1) [418] (C := [tswT 40 1830 0 32 #[148, 252, 265, 321, 365, 378, 422, 466, 479, 523, 598, 611, 679, 692, 705, 773, 786, 854, 922, 978, 991, 1004, 1072, 1152, 1244, 1336, 1416, 1429, 1497, 1510, 1578, 1670, 1774] (ian (xs x.toNat) 63) = 418]) (pc' := 418) (ls' := [some (.inr (.inr (51, 0))), some (.inr (.inr (9, 0))), some (.inr (.inr (10, 0))), some (.inr (.inr (50, 0))), some (.inl x), o5, o6]) (st' := []) (M' := M) rfl ((by rw [c5]; rfl : tswT 40 1830 0 32 #[148, 252, 265, 321, 365, 378, 422, 466, 479, 523, 598, 611, 679, 692, 705, 773, 786, 854, 922, 978, 991, 1004, 1072, 1152, 1244, 1336, 1416, 1429, 1497, 1510, 1578, 1670, 1774] (ian (xs x.toNat) 63) = 418)) ?_
    exact lc_5 h0 (by omega) h3 (h.1 c5) o5 o6
  replace h := h.2
  rcases Decidable.em (ian (xs x.toNat) 63 = 6) with c6 | c6
  · refine Wl.path (k := 1) [462] (C := [tswT 40 1830 0 32 #[148, 252, 265, 321, 365, 378, 422, 466, 479, 523, 598, 611, 679, 692, 705, 773, 786, 854, 922, 978, 991, 1004, 1072, 1152, 1244, 1336, 1416, 1429, 1497, 1510, 1578, 1670, 1774] (ian (xs x.toNat) 63) = 462]) (pc' := 462) (ls' := [some (.inr (.inr (51, 0))), some (.inr (.inr (9, 0))), some (.inr (.inr (10, 0))), some (.inr (.inr (50, 0))), some (.inl x), o5, o6]) (st' := []) (M' := M) rfl ((by rw [c6]; rfl : tswT 40 1830 0 32 #[148, 252, 265, 321, 365, 378, 422, 466, 479, 523, 598, 611, 679, 692, 705, 773, 786, 854, 922, 978, 991, 1004, 1072, 1152, 1244, 1336, 1416, 1429, 1497, 1510, 1578, 1670, 1774] (ian (xs x.toNat) 63) = 462)) ?_
    exact lc_6 h0 (by omega) h3 (h.1 c6) o5 o6
  replace h := h.2
  rcases Decidable.em (ian (xs x.toNat) 63 = 7) with c7 | c7
  · refine Wl.path (k := 1) [506] (C := [tswT 40 1830 0 32 #[148, 252, 265, 321, 365, 378, 422, 466, 479, 523, 598, 611, 679, 692, 705, 773, 786, 854, 922, 978, 991, 1004, 1072, 1152, 1244, 1336, 1416, 1429, 1497, 1510, 1578, 1670, 1774] (ian (xs x.toNat) 63) = 506]) (pc' := 506) (ls' := [some (.inr (.inr (51, 0))), some (.inr (.inr (9, 0))), some (.inr (.inr (10, 0))), some (.inr (.inr (50, 0))), some (.inl x), o5, o6]) (st' := []) (M' := M) rfl ((by rw [c7]; rfl : tswT 40 1830 0 32 #[148, 252, 265, 321, 365, 378, 422, 466, 479, 523, 598, 611, 679, 692, 705, 773, 786, 854, 922, 978, 991, 1004, 1072, 1152, 1244, 1336, 1416, 1429, 1497, 1510, 1578, 1670, 1774] (ian (xs x.toNat) 63) = 506)) ?_
    exact lc_7 h0 (by omega) h3 (h.1 c7) o5 o6
  replace h := h.2
  rcases Decidable.em (ian (xs x.toNat) 63 = 8) with c8 | c8
  · refine Wl.path (k := 1) [519] (C := [tswT 40 1830 0 32 #[148, 252, 265, 321, 365, 378, 422, 466, 479, 523, 598, 611, 679, 692, 705, 773, 786, 854, 922, 978, 991, 1004, 1072, 1152, 1244, 1336, 1416, 1429, 1497, 1510, 1578, 1670, 1774] (ian (xs x.toNat) 63) = 519]) (pc' := 519) (ls' := [some (.inr (.inr (51, 0))), some (.inr (.inr (9, 0))), some (.inr (.inr (10, 0))), some (.inr (.inr (50, 0))), some (.inl x), o5, o6]) (st' := []) (M' := M) rfl ((by rw [c8]; rfl : tswT 40 1830 0 32 #[148, 252, 265, 321, 365, 378, 422, 466, 479, 523, 598, 611, 679, 692, 705, 773, 786, 854, 922, 978, 991, 1004, 1072, 1152, 1244, 1336, 1416, 1429, 1497, 1510, 1578, 1670, 1774] (ian (xs x.toNat) 63) = 519)) ?_
    exact lc_8 h0 (by omega) h3 (h.1 c8) o5 o6
  replace h := h.2
  rcases Decidable.em (ian (xs x.toNat) 63 = 9) with c9 | c9
  · refine Wl.path (k := 1) [563] (C := [tswT 40 1830 0 32 #[148, 252, 265, 321, 365, 378, 422, 466, 479, 523, 598, 611, 679, 692, 705, 773, 786, 854, 922, 978, 991, 1004, 1072, 1152, 1244, 1336, 1416, 1429, 1497, 1510, 1578, 1670, 1774] (ian (xs x.toNat) 63) = 563]) (pc' := 563) (ls' := [some (.inr (.inr (51, 0))), some (.inr (.inr (9, 0))), some (.inr (.inr (10, 0))), some (.inr (.inr (50, 0))), some (.inl x), o5, o6]) (st' := []) (M' := M) rfl ((by rw [c9]; rfl : tswT 40 1830 0 32 #[148, 252, 265, 321, 365, 378, 422, 466, 479, 523, 598, 611, 679, 692, 705, 773, 786, 854, 922, 978, 991, 1004, 1072, 1152, 1244, 1336, 1416, 1429, 1497, 1510, 1578, 1670, 1774] (ian (xs x.toNat) 63) = 563)) ?_
    exact lc_9 h0 (by omega) h3 (h.1 c9) o5 o6
  replace h := h.2
  rcases Decidable.em (ian (xs x.toNat) 63 = 10) with c10 | c10
  · refine Wl.path (k := 1) [638] (C := [tswT 40 1830 0 32 #[148, 252, 265, 321, 365, 378, 422, 466, 479, 523, 598, 611, 679, 692, 705, 773, 786, 854, 922, 978, 991, 1004, 1072, 1152, 1244, 1336, 1416, 1429, 1497, 1510, 1578, 1670, 1774] (ian (xs x.toNat) 63) = 638]) (pc' := 638) (ls' := [some (.inr (.inr (51, 0))), some (.inr (.inr (9, 0))), some (.inr (.inr (10, 0))), some (.inr (.inr (50, 0))), some (.inl x), o5, o6]) (st' := []) (M' := M) rfl ((by rw [c10]; rfl : tswT 40 1830 0 32 #[148, 252, 265, 321, 365, 378, 422, 466, 479, 523, 598, 611, 679, 692, 705, 773, 786, 854, 922, 978, 991, 1004, 1072, 1152, 1244, 1336, 1416, 1429, 1497, 1510, 1578, 1670, 1774] (ian (xs x.toNat) 63) = 638)) ?_
    exact lc_10 h0 (by omega) h3 (h.1 c10) o5 o6
  replace h := h.2
  rcases Decidable.em (ian (xs x.toNat) 63 = 11) with c11 | c11
  · refine Wl.path (k := 1) [651] (C := [tswT 40 1830 0 32 #[148, 252, 265, 321, 365, 378, 422, 466, 479, 523, 598, 611, 679, 692, 705, 773, 786, 854, 922, 978, 991, 1004, 1072, 1152, 1244, 1336, 1416, 1429, 1497, 1510, 1578, 1670, 1774] (ian (xs x.toNat) 63) = 651]) (pc' := 651) (ls' := [some (.inr (.inr (51, 0))), some (.inr (.inr (9, 0))), some (.inr (.inr (10, 0))), some (.inr (.inr (50, 0))), some (.inl x), o5, o6]) (st' := []) (M' := M) rfl ((by rw [c11]; rfl : tswT 40 1830 0 32 #[148, 252, 265, 321, 365, 378, 422, 466, 479, 523, 598, 611, 679, 692, 705, 773, 786, 854, 922, 978, 991, 1004, 1072, 1152, 1244, 1336, 1416, 1429, 1497, 1510, 1578, 1670, 1774] (ian (xs x.toNat) 63) = 651)) ?_
    exact lc_11 h0 (by omega) h3 (h.1 c11) o5 o6
  replace h := h.2
  rcases Decidable.em (ian (xs x.toNat) 63 = 12) with c12 | c12
  · refine Wl.path (k := 1) [719] (C := [tswT 40 1830 0 32 #[148, 252, 265, 321, 365, 378, 422, 466, 479, 523, 598, 611, 679, 692, 705, 773, 786, 854, 922, 978, 991, 1004, 1072, 1152, 1244, 1336, 1416, 1429, 1497, 1510, 1578, 1670, 1774] (ian (xs x.toNat) 63) = 719]) (pc' := 719) (ls' := [some (.inr (.inr (51, 0))), some (.inr (.inr (9, 0))), some (.inr (.inr (10, 0))), some (.inr (.inr (50, 0))), some (.inl x), o5, o6]) (st' := []) (M' := M) rfl ((by rw [c12]; rfl : tswT 40 1830 0 32 #[148, 252, 265, 321, 365, 378, 422, 466, 479, 523, 598, 611, 679, 692, 705, 773, 786, 854, 922, 978, 991, 1004, 1072, 1152, 1244, 1336, 1416, 1429, 1497, 1510, 1578, 1670, 1774] (ian (xs x.toNat) 63) = 719)) ?_
    exact lc_12 h0 (by omega) h3 (h.1 c12) o5 o6
  replace h := h.2
  rcases Decidable.em (ian (xs x.toNat) 63 = 13) with c13 | c13
  · refine Wl.path (k := 1) [732] (C := [tswT 40 1830 0 32 #[148, 252, 265, 321, 365, 378, 422, 466, 479, 523, 598, 611, 679, 692, 705, 773, 786, 854, 922, 978, 991, 1004, 1072, 1152, 1244, 1336, 1416, 1429, 1497, 1510, 1578, 1670, 1774] (ian (xs x.toNat) 63) = 732]) (pc' := 732) (ls' := [some (.inr (.inr (51, 0))), some (.inr (.inr (9, 0))), some (.inr (.inr (10, 0))), some (.inr (.inr (50, 0))), some (.inl x), o5, o6]) (st' := []) (M' := M) rfl ((by rw [c13]; rfl : tswT 40 1830 0 32 #[148, 252, 265, 321, 365, 378, 422, 466, 479, 523, 598, 611, 679, 692, 705, 773, 786, 854, 922, 978, 991, 1004, 1072, 1152, 1244, 1336, 1416, 1429, 1497, 1510, 1578, 1670, 1774] (ian (xs x.toNat) 63) = 732)) ?_
    exact lc_13 h0 (by omega) h3 (h.1 c13) o5 o6
  replace h := h.2
  rcases Decidable.em (ian (xs x.toNat) 63 = 14) with c14 | c14
  · refine Wl.path (k := 1) [745] (C := [tswT 40 1830 0 32 #[148, 252, 265, 321, 365, 378, 422, 466, 479, 523, 598, 611, 679, 692, 705, 773, 786, 854, 922, 978, 991, 1004, 1072, 1152, 1244, 1336, 1416, 1429, 1497, 1510, 1578, 1670, 1774] (ian (xs x.toNat) 63) = 745]) (pc' := 745) (ls' := [some (.inr (.inr (51, 0))), some (.inr (.inr (9, 0))), some (.inr (.inr (10, 0))), some (.inr (.inr (50, 0))), some (.inl x), o5, o6]) (st' := []) (M' := M) rfl ((by rw [c14]; rfl : tswT 40 1830 0 32 #[148, 252, 265, 321, 365, 378, 422, 466, 479, 523, 598, 611, 679, 692, 705, 773, 786, 854, 922, 978, 991, 1004, 1072, 1152, 1244, 1336, 1416, 1429, 1497, 1510, 1578, 1670, 1774] (ian (xs x.toNat) 63) = 745)) ?_
    exact lc_14 h0 (by omega) h3 (h.1 c14) o5 o6
  replace h := h.2
  rcases Decidable.em (ian (xs x.toNat) 63 = 15) with c15 | c15
  · refine Wl.path (k := 1) [813] (C := [tswT 40 1830 0 32 #[148, 252, 265, 321, 365, 378, 422, 466, 479, 523, 598, 611, 679, 692, 705, 773, 786, 854, 922, 978, 991, 1004, 1072, 1152, 1244, 1336, 1416, 1429, 1497, 1510, 1578, 1670, 1774] (ian (xs x.toNat) 63) = 813]) (pc' := 813) (ls' := [some (.inr (.inr (51, 0))), some (.inr (.inr (9, 0))), some (.inr (.inr (10, 0))), some (.inr (.inr (50, 0))), some (.inl x), o5, o6]) (st' := []) (M' := M) rfl ((by rw [c15]; rfl : tswT 40 1830 0 32 #[148, 252, 265, 321, 365, 378, 422, 466, 479, 523, 598, 611, 679, 692, 705, 773, 786, 854, 922, 978, 991, 1004, 1072, 1152, 1244, 1336, 1416, 1429, 1497, 1510, 1578, 1670, 1774] (ian (xs x.toNat) 63) = 813)) ?_
    exact lc_15 h0 (by omega) h3 (h.1 c15) o5 o6
  replace h := h.2
  rcases Decidable.em (ian (xs x.toNat) 63 = 16) with c16 | c16
  · refine Wl.path (k := 1) [826] (C := [tswT 40 1830 0 32 #[148, 252, 265, 321, 365, 378, 422, 466, 479, 523, 598, 611, 679, 692, 705, 773, 786, 854, 922, 978, 991, 1004, 1072, 1152, 1244, 1336, 1416, 1429, 1497, 1510, 1578, 1670, 1774] (ian (xs x.toNat) 63) = 826]) (pc' := 826) (ls' := [some (.inr (.inr (51, 0))), some (.inr (.inr (9, 0))), some (.inr (.inr (10, 0))), some (.inr (.inr (50, 0))), some (.inl x), o5, o6]) (st' := []) (M' := M) rfl ((by rw [c16]; rfl : tswT 40 1830 0 32 #[148, 252, 265, 321, 365, 378, 422, 466, 479, 523, 598, 611, 679, 692, 705, 773, 786, 854, 922, 978, 991, 1004, 1072, 1152, 1244, 1336, 1416, 1429, 1497, 1510, 1578, 1670, 1774] (ian (xs x.toNat) 63) = 826)) ?_
    exact lc_16 h0 (by omega) h3 (h.1 c16) o5 o6
  replace h := h.2
  rcases Decidable.em (ian (xs x.toNat) 63 = 17) with c17 | c17
  · refine Wl.path (k := 1) [894] (C := [tswT 40 1830 0 32 #[148, 252, 265, 321, 365, 378, 422, 466, 479, 523, 598, 611, 679, 692, 705, 773, 786, 854, 922, 978, 991, 1004, 1072, 1152, 1244, 1336, 1416, 1429, 1497, 1510, 1578, 1670, 1774] (ian (xs x.toNat) 63) = 894]) (pc' := 894) (ls' := [some (.inr (.inr (51, 0))), some (.inr (.inr (9, 0))), some (.inr (.inr (10, 0))), some (.inr (.inr (50, 0))), some (.inl x), o5, o6]) (st' := []) (M' := M) rfl ((by rw [c17]; rfl : tswT 40 1830 0 32 #[148, 252, 265, 321, 365, 378, 422, 466, 479, 523, 598, 611, 679, 692, 705, 773, 786, 854, 922, 978, 991, 1004, 1072, 1152, 1244, 1336, 1416, 1429, 1497, 1510, 1578, 1670, 1774] (ian (xs x.toNat) 63) = 894)) ?_
    exact lc_17 h0 (by omega) h3 (h.1 c17) o5 o6
  replace h := h.2
  rcases Decidable.em (ian (xs x.toNat) 63 = 18) with c18 | c18
  · refine Wl.path (k := 1) [962] (C := [tswT 40 1830 0 32 #[148, 252, 265, 321, 365, 378, 422, 466, 479, 523, 598, 611, 679, 692, 705, 773, 786, 854, 922, 978, 991, 1004, 1072, 1152, 1244, 1336, 1416, 1429, 1497, 1510, 1578, 1670, 1774] (ian (xs x.toNat) 63) = 962]) (pc' := 962) (ls' := [some (.inr (.inr (51, 0))), some (.inr (.inr (9, 0))), some (.inr (.inr (10, 0))), some (.inr (.inr (50, 0))), some (.inl x), o5, o6]) (st' := []) (M' := M) rfl ((by rw [c18]; rfl : tswT 40 1830 0 32 #[148, 252, 265, 321, 365, 378, 422, 466, 479, 523, 598, 611, 679, 692, 705, 773, 786, 854, 922, 978, 991, 1004, 1072, 1152, 1244, 1336, 1416, 1429, 1497, 1510, 1578, 1670, 1774] (ian (xs x.toNat) 63) = 962)) ?_
    exact lc_18 h0 (by omega) h3 (h.1 c18) o5 o6
  replace h := h.2
  rcases Decidable.em (ian (xs x.toNat) 63 = 19) with c19 | c19
  · refine Wl.path (k := 1) [1018] (C := [tswT 40 1830 0 32 #[148, 252, 265, 321, 365, 378, 422, 466, 479, 523, 598, 611, 679, 692, 705, 773, 786, 854, 922, 978, 991, 1004, 1072, 1152, 1244, 1336, 1416, 1429, 1497, 1510, 1578, 1670, 1774] (ian (xs x.toNat) 63) = 1018]) (pc' := 1018) (ls' := [some (.inr (.inr (51, 0))), some (.inr (.inr (9, 0))), some (.inr (.inr (10, 0))), some (.inr (.inr (50, 0))), some (.inl x), o5, o6]) (st' := []) (M' := M) rfl ((by rw [c19]; rfl : tswT 40 1830 0 32 #[148, 252, 265, 321, 365, 378, 422, 466, 479, 523, 598, 611, 679, 692, 705, 773, 786, 854, 922, 978, 991, 1004, 1072, 1152, 1244, 1336, 1416, 1429, 1497, 1510, 1578, 1670, 1774] (ian (xs x.toNat) 63) = 1018)) ?_
    exact lc_19 h0 (by omega) h3 (h.1 c19) o5 o6
  replace h := h.2
  rcases Decidable.em (ian (xs x.toNat) 63 = 20) with c20 | c20
  · refine Wl.path (k := 1) [1031] (C := [tswT 40 1830 0 32 #[148, 252, 265, 321, 365, 378, 422, 466, 479, 523, 598, 611, 679, 692, 705, 773, 786, 854, 922, 978, 991, 1004, 1072, 1152, 1244, 1336, 1416, 1429, 1497, 1510, 1578, 1670, 1774] (ian (xs x.toNat) 63) = 1031]) (pc' := 1031) (ls' := [some (.inr (.inr (51, 0))), some (.inr (.inr (9, 0))), some (.inr (.inr (10, 0))), some (.inr (.inr (50, 0))), some (.inl x), o5, o6]) (st' := []) (M' := M) rfl ((by rw [c20]; rfl : tswT 40 1830 0 32 #[148, 252, 265, 321, 365, 378, 422, 466, 479, 523, 598, 611, 679, 692, 705, 773, 786, 854, 922, 978, 991, 1004, 1072, 1152, 1244, 1336, 1416, 1429, 1497, 1510, 1578, 1670, 1774] (ian (xs x.toNat) 63) = 1031)) ?_
    exact lc_20 h0 (by omega) h3 (h.1 c20) o5 o6
  replace h := h.2
  rcases Decidable.em (ian (xs x.toNat) 63 = 21) with c21 | c21
  · refine Wl.path (k := 1) [1044] (C := [tswT 40 1830 0 32 #[148, 252, 265, 321, 365, 378, 422, 466, 479, 523, 598, 611, 679, 692, 705, 773, 786, 854, 922, 978, 991, 1004, 1072, 1152, 1244, 1336, 1416, 1429, 1497, 1510, 1578, 1670, 1774] (ian (xs x.toNat) 63) = 1044]) (pc' := 1044) (ls' := [some (.inr (.inr (51, 0))), some (.inr (.inr (9, 0))), some (.inr (.inr (10, 0))), some (.inr (.inr (50, 0))), some (.inl x), o5, o6]) (st' := []) (M' := M) rfl ((by rw [c21]; rfl : tswT 40 1830 0 32 #[148, 252, 265, 321, 365, 378, 422, 466, 479, 523, 598, 611, 679, 692, 705, 773, 786, 854, 922, 978, 991, 1004, 1072, 1152, 1244, 1336, 1416, 1429, 1497, 1510, 1578, 1670, 1774] (ian (xs x.toNat) 63) = 1044)) ?_
    exact lc_21 h0 (by omega) h3 (h.1 c21) o5 o6
  replace h := h.2
  rcases Decidable.em (ian (xs x.toNat) 63 = 22) with c22 | c22
  · refine Wl.path (k := 1) [1112] (C := [tswT 40 1830 0 32 #[148, 252, 265, 321, 365, 378, 422, 466, 479, 523, 598, 611, 679, 692, 705, 773, 786, 854, 922, 978, 991, 1004, 1072, 1152, 1244, 1336, 1416, 1429, 1497, 1510, 1578, 1670, 1774] (ian (xs x.toNat) 63) = 1112]) (pc' := 1112) (ls' := [some (.inr (.inr (51, 0))), some (.inr (.inr (9, 0))), some (.inr (.inr (10, 0))), some (.inr (.inr (50, 0))), some (.inl x), o5, o6]) (st' := []) (M' := M) rfl ((by rw [c22]; rfl : tswT 40 1830 0 32 #[148, 252, 265, 321, 365, 378, 422, 466, 479, 523, 598, 611, 679, 692, 705, 773, 786, 854, 922, 978, 991, 1004, 1072, 1152, 1244, 1336, 1416, 1429, 1497, 1510, 1578, 1670, 1774] (ian (xs x.toNat) 63) = 1112)) ?_
    exact lc_22 h0 (by omega) h3 (h.1 c22) o5 o6
  replace h := h.2
  rcases Decidable.em (ian (xs x.toNat) 63 = 23) with c23 | c23
  · refine Wl.path (k := 1) [1192] (C := [tswT 40 1830 0 32 #[148, 252, 265, 321, 365, 378, 422, 466, 479, 523, 598, 611, 679, 692, 705, 773, 786, 854, 922, 978, 991, 1004, 1072, 1152, 1244, 1336, 1416, 1429, 1497, 1510, 1578, 1670, 1774] (ian (xs x.toNat) 63) = 1192]) (pc' := 1192) (ls' := [some (.inr (.inr (51, 0))), some (.inr (.inr (9, 0))), some (.inr (.inr (10, 0))), some (.inr (.inr (50, 0))), some (.inl x), o5, o6]) (st' := []) (M' := M) rfl ((by rw [c23]; rfl : tswT 40 1830 0 32 #[148, 252, 265, 321, 365, 378, 422, 466, 479, 523, 598, 611, 679, 692, 705, 773, 786, 854, 922, 978, 991, 1004, 1072, 1152, 1244, 1336, 1416, 1429, 1497, 1510, 1578, 1670, 1774] (ian (xs x.toNat) 63) = 1192)) ?_
    exact lc_23 h0 (by omega) h3 (h.1 c23) o5 o6
  replace h := h.2
  rcases Decidable.em (ian (xs x.toNat) 63 = 24) with c24 | c24
  · refine Wl.path (k := 1) [1284] (C := [tswT 40 1830 0 32 #[148, 252, 265, 321, 365, 378, 422, 466, 479, 523, 598, 611, 679, 692, 705, 773, 786, 854, 922, 978, 991, 1004, 1072, 1152, 1244, 1336, 1416, 1429, 1497, 1510, 1578, 1670, 1774] (ian (xs x.toNat) 63) = 1284]) (pc' := 1284) (ls' := [some (.inr (.inr (51, 0))), some (.inr (.inr (9, 0))), some (.inr (.inr (10, 0))), some (.inr (.inr (50, 0))), some (.inl x), o5, o6]) (st' := []) (M' := M) rfl ((by rw [c24]; rfl : tswT 40 1830 0 32 #[148, 252, 265, 321, 365, 378, 422, 466, 479, 523, 598, 611, 679, 692, 705, 773, 786, 854, 922, 978, 991, 1004, 1072, 1152, 1244, 1336, 1416, 1429, 1497, 1510, 1578, 1670, 1774] (ian (xs x.toNat) 63) = 1284)) ?_
    exact lc_24 h0 (by omega) h3 (h.1 c24) o5 o6
  replace h := h.2
  rcases Decidable.em (ian (xs x.toNat) 63 = 25) with c25 | c25
  · refine Wl.path (k := 1) [1376] (C := [tswT 40 1830 0 32 #[148, 252, 265, 321, 365, 378, 422, 466, 479, 523, 598, 611, 679, 692, 705, 773, 786, 854, 922, 978, 991, 1004, 1072, 1152, 1244, 1336, 1416, 1429, 1497, 1510, 1578, 1670, 1774] (ian (xs x.toNat) 63) = 1376]) (pc' := 1376) (ls' := [some (.inr (.inr (51, 0))), some (.inr (.inr (9, 0))), some (.inr (.inr (10, 0))), some (.inr (.inr (50, 0))), some (.inl x), o5, o6]) (st' := []) (M' := M) rfl ((by rw [c25]; rfl : tswT 40 1830 0 32 #[148, 252, 265, 321, 365, 378, 422, 466, 479, 523, 598, 611, 679, 692, 705, 773, 786, 854, 922, 978, 991, 1004, 1072, 1152, 1244, 1336, 1416, 1429, 1497, 1510, 1578, 1670, 1774] (ian (xs x.toNat) 63) = 1376)) ?_
    exact lc_25 h0 (by omega) h3 (h.1 c25) o5 o6
  replace h := h.2
  rcases Decidable.em (ian (xs x.toNat) 63 = 26) with c26 | c26
  · refine Wl.path (k := 1) [1456] (C := [tswT 40 1830 0 32 #[148, 252, 265, 321, 365, 378, 422, 466, 479, 523, 598, 611, 679, 692, 705, 773, 786, 854, 922, 978, 991, 1004, 1072, 1152, 1244, 1336, 1416, 1429, 1497, 1510, 1578, 1670, 1774] (ian (xs x.toNat) 63) = 1456]) (pc' := 1456) (ls' := [some (.inr (.inr (51, 0))), some (.inr (.inr (9, 0))), some (.inr (.inr (10, 0))), some (.inr (.inr (50, 0))), some (.inl x), o5, o6]) (st' := []) (M' := M) rfl ((by rw [c26]; rfl : tswT 40 1830 0 32 #[148, 252, 265, 321, 365, 378, 422, 466, 479, 523, 598, 611, 679, 692, 705, 773, 786, 854, 922, 978, 991, 1004, 1072, 1152, 1244, 1336, 1416, 1429, 1497, 1510, 1578, 1670, 1774] (ian (xs x.toNat) 63) = 1456)) ?_
    exact lc_26 h0 (by omega) h3 (h.1 c26) o5 o6
  replace h := h.2
  rcases Decidable.em (ian (xs x.toNat) 63 = 27) with c27 | c27
  · refine Wl.path (k := 1) [1469] (C := [tswT 40 1830 0 32 #[148, 252, 265, 321, 365, 378, 422, 466, 479, 523, 598, 611, 679, 692, 705, 773, 786, 854, 922, 978, 991, 1004, 1072, 1152, 1244, 1336, 1416, 1429, 1497, 1510, 1578, 1670, 1774] (ian (xs x.toNat) 63) = 1469]) (pc' := 1469) (ls' := [some (.inr (.inr (51, 0))), some (.inr (.inr (9, 0))), some (.inr (.inr (10, 0))), some (.inr (.inr (50, 0))), some (.inl x), o5, o6]) (st' := []) (M' := M) rfl ((by rw [c27]; rfl : tswT 40 1830 0 32 #[148, 252, 265, 321, 365, 378, 422, 466, 479, 523, 598, 611, 679, 692, 705, 773, 786, 854, 922, 978, 991, 1004, 1072, 1152, 1244, 1336, 1416, 1429, 1497, 1510, 1578, 1670, 1774] (ian (xs x.toNat) 63) = 1469)) ?_
    exact lc_27 h0 (by omega) h3 (h.1 c27) o5 o6
  replace h := h.2
  rcases Decidable.em (ian (xs x.toNat) 63 = 28) with c28 | c28
  · refine Wl.path (k := 1) [1537] (C := [tswT 40 1830 0 32 #[148, 252, 265, 321, 365, 378, 422, 466, 479, 523, 598, 611, 679, 692, 705, 773, 786, 854, 922, 978, 991, 1004, 1072, 1152, 1244, 1336, 1416, 1429, 1497, 1510, 1578, 1670, 1774] (ian (xs x.toNat) 63) = 1537]) (pc' := 1537) (ls' := [some (.inr (.inr (51, 0))), some (.inr (.inr (9, 0))), some (.inr (.inr (10, 0))), some (.inr (.inr (50, 0))), some (.inl x), o5, o6]) (st' := []) (M' := M) rfl ((by rw [c28]; rfl : tswT 40 1830 0 32 #[148, 252, 265, 321, 365, 378, 422, 466, 479, 523, 598, 611, 679, 692, 705, 773, 786, 854, 922, 978, 991, 1004, 1072, 1152, 1244, 1336, 1416, 1429, 1497, 1510, 1578, 1670, 1774] (ian (xs x.toNat) 63) = 1537)) ?_
    exact lc_28 h0 (by omega) h3 (h.1 c28) o5 o6
  replace h := h.2
  rcases Decidable.em (ian (xs x.toNat) 63 = 29) with c29 | c29
  · refine Wl.path (k := 1) [1550] (C := [tswT 40 1830 0 32 #[148, 252, 265, 321, 365, 378, 422, 466, 479, 523, 598, 611, 679, 692, 705, 773, 786, 854, 922, 978, 991, 1004, 1072, 1152, 1244, 1336, 1416, 1429, 1497, 1510, 1578, 1670, 1774] (ian (xs x.toNat) 63) = 1550]) (pc' := 1550) (ls' := [some (.inr (.inr (51, 0))), some (.inr (.inr (9, 0))), some (.inr (.inr (10, 0))), some (.inr (.inr (50, 0))), some (.inl x), o5, o6]) (st' := []) (M' := M) rfl ((by rw [c29]; rfl : tswT 40 1830 0 32 #[148, 252, 265, 321, 365, 378, 422, 466, 479, 523, 598, 611, 679, 692, 705, 773, 786, 854, 922, 978, 991, 1004, 1072, 1152, 1244, 1336, 1416, 1429, 1497, 1510, 1578, 1670, 1774] (ian (xs x.toNat) 63) = 1550)) ?_
    exact lc_29 h0 (by omega) h3 (h.1 c29) o5 o6
  replace h := h.2
  rcases Decidable.em (ian (xs x.toNat) 63 = 30) with c30 | c30
  · refine Wl.path (k := 1) [1618] (C := [tswT 40 1830 0 32 #[148, 252, 265, 321, 365, 378, 422, 466, 479, 523, 598, 611, 679, 692, 705, 773, 786, 854, 922, 978, 991, 1004, 1072, 1152, 1244, 1336, 1416, 1429, 1497, 1510, 1578, 1670, 1774] (ian (xs x.toNat) 63) = 1618]) (pc' := 1618) (ls' := [some (.inr (.inr (51, 0))), some (.inr (.inr (9, 0))), some (.inr (.inr (10, 0))), some (.inr (.inr (50, 0))), some (.inl x), o5, o6]) (st' := []) (M' := M) rfl ((by rw [c30]; rfl : tswT 40 1830 0 32 #[148, 252, 265, 321, 365, 378, 422, 466, 479, 523, 598, 611, 679, 692, 705, 773, 786, 854, 922, 978, 991, 1004, 1072, 1152, 1244, 1336, 1416, 1429, 1497, 1510, 1578, 1670, 1774] (ian (xs x.toNat) 63) = 1618)) ?_
    exact lc_30 h0 (by omega) h3 (h.1 c30) o5 o6
  replace h := h.2
  rcases Decidable.em (ian (xs x.toNat) 63 = 31) with c31 | c31
  · refine Wl.path (k := 1) [1710] (C := [tswT 40 1830 0 32 #[148, 252, 265, 321, 365, 378, 422, 466, 479, 523, 598, 611, 679, 692, 705, 773, 786, 854, 922, 978, 991, 1004, 1072, 1152, 1244, 1336, 1416, 1429, 1497, 1510, 1578, 1670, 1774] (ian (xs x.toNat) 63) = 1710]) (pc' := 1710) (ls' := [some (.inr (.inr (51, 0))), some (.inr (.inr (9, 0))), some (.inr (.inr (10, 0))), some (.inr (.inr (50, 0))), some (.inl x), o5, o6]) (st' := []) (M' := M) rfl ((by rw [c31]; rfl : tswT 40 1830 0 32 #[148, 252, 265, 321, 365, 378, 422, 466, 479, 523, 598, 611, 679, 692, 705, 773, 786, 854, 922, 978, 991, 1004, 1072, 1152, 1244, 1336, 1416, 1429, 1497, 1510, 1578, 1670, 1774] (ian (xs x.toNat) 63) = 1710)) ?_
    exact lc_31 h0 (by omega) h3 (h.1 c31) o5 o6
  replace h := h.2
  rcases Decidable.em (ian (xs x.toNat) 63 = 32) with c32 | c32
  · refine Wl.path (k := 1) [1814] (C := [tswT 40 1830 0 32 #[148, 252, 265, 321, 365, 378, 422, 466, 479, 523, 598, 611, 679, 692, 705, 773, 786, 854, 922, 978, 991, 1004, 1072, 1152, 1244, 1336, 1416, 1429, 1497, 1510, 1578, 1670, 1774] (ian (xs x.toNat) 63) = 1814]) (pc' := 1814) (ls' := [some (.inr (.inr (51, 0))), some (.inr (.inr (9, 0))), some (.inr (.inr (10, 0))), some (.inr (.inr (50, 0))), some (.inl x), o5, o6]) (st' := []) (M' := M) rfl ((by rw [c32]; rfl : tswT 40 1830 0 32 #[148, 252, 265, 321, 365, 378, 422, 466, 479, 523, 598, 611, 679, 692, 705, 773, 786, 854, 922, 978, 991, 1004, 1072, 1152, 1244, 1336, 1416, 1429, 1497, 1510, 1578, 1670, 1774] (ian (xs x.toNat) 63) = 1814)) ?_
    exact lc_32 h0 (by omega) h3 (h.1 c32) o5 o6
  replace h := h.2
  refine Wl.path (k := 1) [1870] (C := [tswT 40 1830 0 32 #[148, 252, 265, 321, 365, 378, 422, 466, 479, 523, 598, 611, 679, 692, 705, 773, 786, 854, 922, 978, 991, 1004, 1072, 1152, 1244, 1336, 1416, 1429, 1497, 1510, 1578, 1670, 1774] (ian (xs x.toNat) 63) = 1870]) (pc' := 1870) (ls' := [some (.inr (.inr (51, 0))), some (.inr (.inr (9, 0))), some (.inr (.inr (10, 0))), some (.inr (.inr (50, 0))), some (.inl x), o5, o6]) (st' := []) (M' := M) rfl ((tsw_d (by omega)).trans rfl) ?_
  have up : ∀ {pc : Nat} {l : Ls} {st : List Vv} {M : Mm}, Wl n xs q pc l st M → Wl n xs (q + 1) pc l st M := fun ⟨q', M', a, b⟩ => ⟨q', M', by omega, b⟩
  apply up
  refine Wl.path (k := 2) [] (C := [inR (x + 6)]) (pc' := 23) (ls' := [some (.inr (.inr (51, 0))), some (.inr (.inr (9, 0))), some (.inr (.inr (10, 0))), some (.inr (.inr (50, 0))), some (.inl (x + 6)), o5, o6]) (st' := []) (M' := M) rfl ((by unfold inR; omega : inR (x + 6))) ?_
  exact h (by omega) _ _

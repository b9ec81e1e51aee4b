/-! what a step keeps: ints in range, references in the world -/
def okS (st : List Vv) : Prop := ∀ v ∈ st, okV v
def okL (ls : Ls) : Prop := ∀ (i : Nat) (v : Vv), nthL ls i = some (some v) → okV v
def okR (r : Go) : Prop := okL r.2.1 ∧ okS r.2.2.1 ∧ okM r.2.2.2
theorem okS_cons {v : Vv} {r : List Vv} : okS (v :: r) ↔ okV v ∧ okS r := List.forall_mem_cons
theorem okS_nil : okS [] := fun _ h => absurd h List.not_mem_nil
theorem okL_get {ls : Ls} {i : Nat} {v : Vv} (h : okL ls) (g : getL ls i = some v) : okV v := by
  unfold getL at g
  split at g
  · next w hw => cases g; exact h _ _ hw
  · cases g
theorem okL_stI {ls : Ls} {i : Nat} {v : Vv} (h : okL ls) (hv : okV v) : okL (stI ls i v) := by
  intro j w hj
  unfold stI at hj
  rw [nthL_set] at hj
  split at hj
  · split at hj
    · cases hj; exact hv
    · cases hj
  · exact h _ _ (clrL_nth hj).1
theorem okL_stJ {ls : Ls} {i : Nat} {v : Int64} (h : okL ls) : okL (stJ ls i v) := by
  intro j w hj
  unfold stJ at hj
  rw [nthL_set] at hj
  split at hj
  · split at hj <;> cases hj
  · rw [nthL_set] at hj
    split at hj
    · split at hj
      · cases hj; exact trivial
      · cases hj
    · exact h _ _ (clrL_nth hj).1
section OK
variable {ls : Ls} {k pc : Nat} {st : List Vv} {M : Mm} {r : Go}
theorem ok_ldI (h : ldI ls k pc st M = some (.inl r)) (hl : okL ls) (hs : okS st) (hm : okM M) : okR r := by
  unfold ldI goS at h
  split at h
  · next v g => cases h; exact ⟨hl, okS_cons.mpr ⟨okL_get hl g, hs⟩, hm⟩
  · cases h
theorem ok_ldJ (h : ldJ ls k pc st M = some (.inl r)) (hl : okL ls) (hs : okS st) (hm : okM M) : okR r := by
  unfold ldJ goS at h
  split at h
  · next v g => cases h; exact ⟨hl, okS_cons.mpr ⟨trivial, hs⟩, hm⟩
  · cases h
theorem ok_ldR (h : ldR ls k pc st M = some (.inl r)) (hl : okL ls) (hs : okS st) (hm : okM M) : okR r := by
  unfold ldR goS at h
  split at h
  · next v g => cases h; exact ⟨hl, okS_cons.mpr ⟨okL_get hl g, hs⟩, hm⟩
  · cases h
theorem ok_seI (h : seI ls k pc st M = some (.inl r)) (hl : okL ls) (hs : okS st) (hm : okM M) : okR r := by
  unfold seI goS at h
  split at h
  · next v st' =>
    cases hc : Nat.blt k ls.length with
    | false => rw [hc] at h; cases h
    | true => rw [hc] at h; cases h; exact ⟨okL_stI hl (okS_cons.mp hs).1, (okS_cons.mp hs).2, hm⟩
  · cases h
theorem ok_seR (h : seR ls k pc st M = some (.inl r)) (hl : okL ls) (hs : okS st) (hm : okM M) : okR r := by
  unfold seR goS at h
  split at h
  · next v st' =>
    cases hc : Nat.blt k ls.length with
    | false => rw [hc] at h; cases h
    | true => rw [hc] at h; cases h; exact ⟨okL_stI hl (okS_cons.mp hs).1, (okS_cons.mp hs).2, hm⟩
  · cases h
theorem ok_seJ (h : seJ ls k pc st M = some (.inl r)) (hl : okL ls) (hs : okS st) (hm : okM M) : okR r := by
  unfold seJ goS at h
  split at h
  · next v st' =>
    cases hc : Nat.blt (k + 1) ls.length with
    | false => rw [hc] at h; cases h
    | true => rw [hc] at h; cases h; exact ⟨okL_stJ hl, (okS_cons.mp hs).2, hm⟩
  · cases h
theorem ok_opI {f : Int → Int → Int} (hf : ∀ x y, inR (f x y)) (h : opI f ls pc st M = some (.inl r)) (hl : okL ls) (hs : okS st) (hm : okM M) : okR r := by
  unfold opI goS at h
  split at h
  · next v u st' => cases h; exact ⟨hl, okS_cons.mpr ⟨hf _ _, (okS_cons.mp (okS_cons.mp hs).2).2⟩, hm⟩
  · cases h
theorem ok_opJ {f : Int64 → Int64 → Int64} (h : opJ f ls pc st M = some (.inl r)) (hl : okL ls) (hs : okS st) (hm : okM M) : okR r := by
  unfold opJ goS at h
  split at h
  · next v u st' => cases h; exact ⟨hl, okS_cons.mpr ⟨trivial, (okS_cons.mp (okS_cons.mp hs).2).2⟩, hm⟩
  · cases h
theorem ok_opS {f : Int64 → Int → Int64} (h : opS f ls pc st M = some (.inl r)) (hl : okL ls) (hs : okS st) (hm : okM M) : okR r := by
  unfold opS goS at h
  split at h
  · next v u st' => cases h; exact ⟨hl, okS_cons.mpr ⟨trivial, (okS_cons.mp (okS_cons.mp hs).2).2⟩, hm⟩
  · cases h
theorem and4 {a b c d : Bool} (h : (a && b && c && d) = true) : a = true ∧ b = true ∧ c = true ∧ d = true := by
  cases a <;> cases b <;> cases c <;> cases d <;> first | exact ⟨rfl, rfl, rfl, rfl⟩ | cases h
theorem kc_in {own : String} {idx : Nat} {x : Int} (h : (kcT.any fun q => Nat.beq q.2.2.1 idx && Nat.beq q.2.2.2.1 0 && decide (q.2.2.2.2 = x) && decide (ownS q.2.1 = own)) = true) : inR x := by
  obtain ⟨q, hq, h⟩ := List.any_eq_true.mp h
  obtain ⟨-, h2, h3, -⟩ := and4 h
  have g := List.all_eq_true.mp kcT_r q hq
  rw [Nat.eq_of_beq_eq_true h2, of_decide_eq_true h3] at g
  have g : (false || (decide (-2147483648 ≤ x) && decide (x ≤ 2147483647))) = true := g
  rw [Bool.false_or, Bool.and_eq_true, decide_eq_true_eq, decide_eq_true_eq] at g
  exact g
set_option maxRecDepth 100000 in
theorem dom_b : (dom.all fun d => (bif Nat.beq (aK d.1) 3 then Nat.ble (aL d.1) 12 else true) && Nat.ble (aL d.1) 30000) = true := by decide +kernel
theorem dom_3b : ((List.range 12).all fun j => dom.contains (3, j)) = true := by decide +kernel
theorem dom_aL {t i : Nat} (h : (t, i) ∈ dom) : aL t ≤ 30000 := by
  have g := List.all_eq_true.mp dom_b (t, i) h
  rw [Bool.and_eq_true] at g
  exact Nat.le_of_ble_eq_true g.2
theorem dom_a3 {t i j : Nat} (h : (t, i) ∈ dom) (h3 : aK t = 3) (hj : j < aL t) : (3, j) ∈ dom := by
  have g := List.all_eq_true.mp dom_b (t, i) h
  rw [Bool.and_eq_true] at g
  have g1 := g.1
  simp only [h3] at g1
  have g2 : aL t ≤ 12 := Nat.le_of_ble_eq_true g1
  exact List.contains_iff_mem.mp (List.all_eq_true.mp dom_3b j (List.mem_range.mpr (by omega)))
end OK
theorem okI_iconst {S : Sc} {mi len a pc : Nat} {x : Int} {ls : Ls} {st : List Vv} {M : Mm} {own : String} {n : Int} {r : Go} (hok : okB own pc (.iconst n, len, a, x) = true)  (hl : okL ls) (hs : okS st) (hm : okM M) (h : sem1 S mi (.iconst n) len a x pc ls st M = some (.inl r)) : okR r := by
  have hok : (decide (-1 ≤ n) && decide (n ≤ 5)) = true := hok
  rw [Bool.and_eq_true, decide_eq_true_eq, decide_eq_true_eq] at hok
  cases h
  exact ⟨hl, okS_cons.mpr ⟨(by unfold okV inR; omega), hs⟩, hm⟩
theorem okI_bipush {S : Sc} {mi len a pc : Nat} {x : Int} {ls : Ls} {st : List Vv} {M : Mm} {own : String} {n : Int} {r : Go} (hok : okB own pc (.bipush n, len, a, x) = true)  (hl : okL ls) (hs : okS st) (hm : okM M) (h : sem1 S mi (.bipush n) len a x pc ls st M = some (.inl r)) : okR r := by
  have hok : (decide _ && decide (-128 ≤ n) && decide (n ≤ 127)) = true := hok
  rw [Bool.and_eq_true, Bool.and_eq_true, decide_eq_true_eq, decide_eq_true_eq, decide_eq_true_eq] at hok
  cases h
  exact ⟨hl, okS_cons.mpr ⟨(by unfold okV inR; omega), hs⟩, hm⟩
theorem okI_sipush {S : Sc} {mi len a pc : Nat} {x : Int} {ls : Ls} {st : List Vv} {M : Mm} {own : String} {n : Int} {r : Go} (hok : okB own pc (.sipush n, len, a, x) = true)  (hl : okL ls) (hs : okS st) (hm : okM M) (h : sem1 S mi (.sipush n) len a x pc ls st M = some (.inl r)) : okR r := by
  have hok : (decide _ && decide (-32768 ≤ n) && decide (n ≤ 32767)) = true := hok
  rw [Bool.and_eq_true, Bool.and_eq_true, decide_eq_true_eq, decide_eq_true_eq, decide_eq_true_eq] at hok
  cases h
  exact ⟨hl, okS_cons.mpr ⟨(by unfold okV inR; omega), hs⟩, hm⟩
theorem okI_idiv {S : Sc} {mi len a pc : Nat} {x : Int} {ls : Ls} {st : List Vv} {M : Mm} {own : String}  {r : Go}  (hl : okL ls) (hs : okS st) (hm : okM M) (h : sem1 S mi (.idiv) len a x pc ls st M = some (.inl r)) : okR r := by
  replace h : (match st with
      | .inl y :: .inl x :: st' => if y = 0 then none else goS (pc + 1) ls (.inl (idv x y) :: st') M
      | _ => none) = some (.inl r) := h
  unfold goS at h
  split at h
  · split at h
    · cases h
    · cases h
      exact ⟨hl, okS_cons.mpr ⟨ti_in _, (okS_cons.mp (okS_cons.mp hs).2).2⟩, hm⟩
  · cases h
theorem okI_irem {S : Sc} {mi len a pc : Nat} {x : Int} {ls : Ls} {st : List Vv} {M : Mm} {own : String}  {r : Go}  (hl : okL ls) (hs : okS st) (hm : okM M) (h : sem1 S mi (.irem) len a x pc ls st M = some (.inl r)) : okR r := by
  replace h : (match st with
      | .inl y :: .inl x :: st' => if y = 0 then none else goS (pc + 1) ls (.inl (irm x y) :: st') M
      | _ => none) = some (.inl r) := h
  unfold goS at h
  split at h
  · split at h
    · cases h
    · cases h
      exact ⟨hl, okS_cons.mpr ⟨ti_in _, (okS_cons.mp (okS_cons.mp hs).2).2⟩, hm⟩
  · cases h
theorem okI_ineg {S : Sc} {mi len a pc : Nat} {x : Int} {ls : Ls} {st : List Vv} {M : Mm} {own : String}  {r : Go}  (hl : okL ls) (hs : okS st) (hm : okM M) (h : sem1 S mi (.ineg) len a x pc ls st M = some (.inl r)) : okR r := by
  replace h : (match st with
      | .inl x :: st' => goS (pc + 1) ls (.inl (wrap (-x)) :: st') M
      | _ => none) = some (.inl r) := h
  unfold goS at h
  split at h
  · cases h
    exact ⟨hl, okS_cons.mpr ⟨wrap_in _, (okS_cons.mp hs).2⟩, hm⟩
  · cases h
theorem okI_pop {S : Sc} {mi len a pc : Nat} {x : Int} {ls : Ls} {st : List Vv} {M : Mm} {own : String}  {r : Go}  (hl : okL ls) (hs : okS st) (hm : okM M) (h : sem1 S mi (.pop) len a x pc ls st M = some (.inl r)) : okR r := by
  replace h : (match st with
      | .inl _ :: st' => goS (pc + 1) ls st' M
      | _ => none) = some (.inl r) := h
  unfold goS at h
  split at h
  · cases h
    exact ⟨hl, (okS_cons.mp hs).2, hm⟩
  · cases h
theorem okI_lneg {S : Sc} {mi len a pc : Nat} {x : Int} {ls : Ls} {st : List Vv} {M : Mm} {own : String}  {r : Go}  (hl : okL ls) (hs : okS st) (hm : okM M) (h : sem1 S mi (.lneg) len a x pc ls st M = some (.inl r)) : okR r := by
  replace h : (match st with
      | .inr (.inl x) :: st' => goS (pc + 1) ls (.inr (.inl (-x)) :: st') M
      | _ => none) = some (.inl r) := h
  unfold goS at h
  split at h
  · cases h
    exact ⟨hl, okS_cons.mpr ⟨trivial, (okS_cons.mp hs).2⟩, hm⟩
  · cases h
theorem okI_i2l {S : Sc} {mi len a pc : Nat} {x : Int} {ls : Ls} {st : List Vv} {M : Mm} {own : String}  {r : Go}  (hl : okL ls) (hs : okS st) (hm : okM M) (h : sem1 S mi (.i2l) len a x pc ls st M = some (.inl r)) : okR r := by
  replace h : (match st with
      | .inl x :: st' => goS (pc + 1) ls (.inr (.inl (Int32.ofInt x).toInt64) :: st') M
      | _ => none) = some (.inl r) := h
  unfold goS at h
  split at h
  · cases h
    exact ⟨hl, okS_cons.mpr ⟨trivial, (okS_cons.mp hs).2⟩, hm⟩
  · cases h
theorem okI_l2i {S : Sc} {mi len a pc : Nat} {x : Int} {ls : Ls} {st : List Vv} {M : Mm} {own : String}  {r : Go}  (hl : okL ls) (hs : okS st) (hm : okM M) (h : sem1 S mi (.l2i) len a x pc ls st M = some (.inl r)) : okR r := by
  replace h : (match st with
      | .inr (.inl x) :: st' => goS (pc + 1) ls (.inl x.toInt32.toInt :: st') M
      | _ => none) = some (.inl r) := h
  unfold goS at h
  split at h
  · cases h
    exact ⟨hl, okS_cons.mpr ⟨ti_in _, (okS_cons.mp hs).2⟩, hm⟩
  · cases h
theorem okI_lcmp {S : Sc} {mi len a pc : Nat} {x : Int} {ls : Ls} {st : List Vv} {M : Mm} {own : String}  {r : Go}  (hl : okL ls) (hs : okS st) (hm : okM M) (h : sem1 S mi (.lcmp) len a x pc ls st M = some (.inl r)) : okR r := by
  replace h : (match st with
      | .inr (.inl y) :: .inr (.inl x) :: st' => goS (pc + 1) ls (.inl (lcm x y) :: st') M
      | _ => none) = some (.inl r) := h
  unfold goS at h
  split at h
  · cases h
    exact ⟨hl, okS_cons.mpr ⟨ti_in _, (okS_cons.mp (okS_cons.mp hs).2).2⟩, hm⟩
  · cases h
theorem okI_iinc {S : Sc} {mi len a pc : Nat} {x : Int} {ls : Ls} {st : List Vv} {M : Mm} {own : String} {k : Nat} {n : Int} {r : Go}  (hl : okL ls) (hs : okS st) (hm : okM M) (h : sem1 S mi (.iinc k n) len a x pc ls st M = some (.inl r)) : okR r := by
  replace h : (match getL ls k with
      | some (.inl v) => bif Nat.blt k ls.length then goS (pc + 3) (stI ls k (.inl (wrap (v + n)))) st M else none
      | _ => none) = some (.inl r) := h
  unfold goS at h
  split at h
  · cases hc : Nat.blt k ls.length with
    | false => rw [hc] at h; cases h
    | true => rw [hc] at h; cases h; exact ⟨okL_stI hl (wrap_in _), hs, hm⟩
  · cases h
theorem okI_dup {S : Sc} {mi len a pc : Nat} {x : Int} {ls : Ls} {st : List Vv} {M : Mm} {own : String}  {r : Go}  (hl : okL ls) (hs : okS st) (hm : okM M) (h : sem1 S mi (.dup) len a x pc ls st M = some (.inl r)) : okR r := by
  replace h : (match st with
      | .inl v :: st' => goS (pc + 1) ls (.inl v :: .inl v :: st') M
      | .inr (.inr v) :: st' => goS (pc + 1) ls (.inr (.inr v) :: .inr (.inr v) :: st') M
      | _ => none) = some (.inl r) := h
  unfold goS at h
  split at h
  · cases h
    exact ⟨hl, okS_cons.mpr ⟨(okS_cons.mp hs).1, hs⟩, hm⟩
  · cases h
    exact ⟨hl, okS_cons.mpr ⟨(okS_cons.mp hs).1, hs⟩, hm⟩
  · cases h
theorem okI_dup2 {S : Sc} {mi len a pc : Nat} {x : Int} {ls : Ls} {st : List Vv} {M : Mm} {own : String}  {r : Go}  (hl : okL ls) (hs : okS st) (hm : okM M) (h : sem1 S mi (.dup2) len a x pc ls st M = some (.inl r)) : okR r := by
  replace h : (match st with
      | .inl v :: .inr (.inr w) :: st' => goS (pc + 1) ls (.inl v :: .inr (.inr w) :: .inl v :: .inr (.inr w) :: st') M
      | _ => none) = some (.inl r) := h
  unfold goS at h
  split at h
  · cases h
    exact ⟨hl, okS_cons.mpr ⟨(okS_cons.mp hs).1, okS_cons.mpr ⟨(okS_cons.mp (okS_cons.mp hs).2).1, hs⟩⟩, hm⟩
  · cases h
theorem okI_ifCond {S : Sc} {mi len a pc : Nat} {x : Int} {ls : Ls} {st : List Vv} {M : Mm} {own : String} {c : Jvm.ClassFile.Cond} {off : Int} {r : Go}  (hl : okL ls) (hs : okS st) (hm : okM M) (h : sem1 S mi (.ifCond c off) len a x pc ls st M = some (.inl r)) : okR r := by
  replace h : (match st with
      | .inl x :: st' => goS (cmp0 c x a (pc + 3)) ls st' M
      | _ => none) = some (.inl r) := h
  unfold goS at h
  split at h
  · cases h
    exact ⟨hl, (okS_cons.mp hs).2, hm⟩
  · cases h
theorem okI_if_icmp {S : Sc} {mi len a pc : Nat} {x : Int} {ls : Ls} {st : List Vv} {M : Mm} {own : String} {c : Jvm.ClassFile.Cond} {off : Int} {r : Go}  (hl : okL ls) (hs : okS st) (hm : okM M) (h : sem1 S mi (.if_icmp c off) len a x pc ls st M = some (.inl r)) : okR r := by
  replace h : (match st with
      | .inl y :: .inl x :: st' => goS (cmp2 c x y a (pc + 3)) ls st' M
      | _ => none) = some (.inl r) := h
  unfold goS at h
  split at h
  · cases h
    exact ⟨hl, (okS_cons.mp (okS_cons.mp hs).2).2, hm⟩
  · cases h
theorem okI_ifnull {S : Sc} {mi len a pc : Nat} {x : Int} {ls : Ls} {st : List Vv} {M : Mm} {own : String} {off : Int} {r : Go}  (hl : okL ls) (hs : okS st) (hm : okM M) (h : sem1 S mi (.ifnull off) len a x pc ls st M = some (.inl r)) : okR r := by
  replace h : (match st with
      | .inr (.inr _) :: st' => goS (pc + 3) ls st' M
      | _ => none) = some (.inl r) := h
  unfold goS at h
  split at h
  · cases h
    exact ⟨hl, (okS_cons.mp hs).2, hm⟩
  · cases h
theorem okI_tableswitch {S : Sc} {mi len a pc : Nat} {x : Int} {ls : Ls} {st : List Vv} {M : Mm} {own : String} {dflt : Int} {lo : Int} {hi : Int} {offs : Array Int} {r : Go}  (hl : okL ls) (hs : okS st) (hm : okM M) (h : sem1 S mi (.tableswitch dflt lo hi offs) len a x pc ls st M = some (.inl r)) : okR r := by
  replace h : (match st with
      | .inl v :: st' => goS (tswT pc dflt lo hi offs v) ls st' M
      | _ => none) = some (.inl r) := h
  unfold goS at h
  split at h
  · cases h
    exact ⟨hl, (okS_cons.mp hs).2, hm⟩
  · cases h
theorem okI_lookupswitch {S : Sc} {mi len a pc : Nat} {x : Int} {ls : Ls} {st : List Vv} {M : Mm} {own : String} {dflt : Int} {ps : Array (Int × Int)} {r : Go}  (hl : okL ls) (hs : okS st) (hm : okM M) (h : sem1 S mi (.lookupswitch dflt ps) len a x pc ls st M = some (.inl r)) : okR r := by
  replace h : (match st with
      | .inl v :: st' => bif (ps.toList.zip (ps.toList.drop 1)).all (fun (a, next) => a.1 < next.1) then goS ((pc : Int) + Op.lookupswitch.offset ps.toList dflt v).toNat ls st' M else none
      | _ => none) = some (.inl r) := h
  unfold goS at h
  split at h
  · rw [Bool.cond_eq_ite] at h
    split at h
    · cases h
      exact ⟨hl, (okS_cons.mp hs).2, hm⟩
    · cases h
  · cases h
theorem okI_getfield {S : Sc} {mi len a pc : Nat} {x : Int} {ls : Ls} {st : List Vv} {M : Mm} {own : String} {idx : Nat} {r : Go} (hok : okB own pc (.getfield idx, len, a, x) = true)  (hl : okL ls) (hs : okS st) (hm : okM M) (h : sem1 S mi (.getfield idx) len a x pc ls st M = some (.inl r)) : okR r := by
  replace h : (match st with
      | .inr (.inr (t, i)) :: st' => bif Nat.beq t (a / 100) then (match fK (a / 100) (a % 100) with
        | 0 => goS (pc + 3) ls (.inl (M.1 (a / 100) i (a % 100)) :: st') M
        | 1 => goS (pc + 3) ls (.inl (M.1 (a / 100) i (a % 100)) :: st') M
        | 2 => goS (pc + 3) ls (.inr (.inr (a + 100, i)) :: st') M
        | _ => goS (pc + 3) ls (.inr (.inr (oF a i)) :: st') M) else none
      | _ => none) = some (.inl r) := h
  unfold goS at h
  split at h
  · next t i st' =>
    cases hb : Nat.beq t (a / 100) with
    | false => rw [hb] at h; cases h
    | true =>
      rw [hb] at h
      have ht := Nat.eq_of_beq_eq_true hb
      obtain ⟨-, h11, hk⟩ := fl_of (idx := idx) (a := a) (own := own) hok
      have hdm : (t, i) ∈ dom := dom_of (okS_cons.mp hs).1 (by omega)
      subst ht
      have ea : 100 * (a / 100) + a % 100 = a := Nat.div_add_mod a 100
      have hs' := (okS_cons.mp hs).2
      replace h : (match fK (a / 100) (a % 100) with
        | 0 => some (.inl (pc + 3, ls, .inl (M.1 (a / 100) i (a % 100)) :: st', M))
        | 1 => some (.inl (pc + 3, ls, .inl (M.1 (a / 100) i (a % 100)) :: st', M))
        | 2 => some (.inl (pc + 3, ls, .inr (.inr (a + 100, i)) :: st', M))
        | _ => some (.inl (pc + 3, ls, .inr (.inr (oF a i)) :: st', M)) : Option SR) = some (.inl r) := h
      split at h
      · cases h
        exact ⟨hl, okS_cons.mpr ⟨hm _ _ _, hs'⟩, hm⟩
      · cases h
        exact ⟨hl, okS_cons.mpr ⟨hm _ _ _, hs'⟩, hm⟩
      · next hf =>
        cases h
        have hd2 := dom_arr hdm h11 hk hf
        rw [ea] at hd2
        exact ⟨hl, okS_cons.mpr ⟨Or.inl hd2, hs'⟩, hm⟩
      · next g0 g1 g2 =>
        cases h
        have hd2 := dom_obj hdm h11 hk g0 g1 g2
        rw [ea] at hd2
        exact ⟨hl, okS_cons.mpr ⟨Or.inl hd2, hs'⟩, hm⟩
  · cases h
theorem okI_putfield {S : Sc} {mi len a pc : Nat} {x : Int} {ls : Ls} {st : List Vv} {M : Mm} {own : String} {idx : Nat} {r : Go}  (hl : okL ls) (hs : okS st) (hm : okM M) (h : sem1 S mi (.putfield idx) len a x pc ls st M = some (.inl r)) : okR r := by
  replace h : (match st with
      | .inl v :: .inr (.inr (t, i)) :: st' => bif Nat.beq t (a / 100) then (match fK (a / 100) (a % 100) with
        | 0 => goS (pc + 3) ls st' (setI M (a / 100) i (a % 100) v)
        | 1 => if v = 0 then goS (pc + 3) ls st' (setI M (a / 100) i (a % 100) v) else if v = 1 then goS (pc + 3) ls st' (setI M (a / 100) i (a % 100) v) else none
        | _ => none) else none
      | _ => none) = some (.inl r) := h
  unfold goS at h
  split at h
  · next v t i st' =>
    have hv : inR v := (okS_cons.mp hs).1
    have hs' := (okS_cons.mp (okS_cons.mp hs).2).2
    cases hb : Nat.beq t (a / 100) with
    | false => rw [hb] at h; cases h
    | true =>
      rw [hb] at h
      replace h : (match fK (a / 100) (a % 100) with
        | 0 => some (.inl (pc + 3, ls, st', setI M (a / 100) i (a % 100) v))
        | 1 => if v = 0 then some (.inl (pc + 3, ls, st', setI M (a / 100) i (a % 100) v)) else if v = 1 then some (.inl (pc + 3, ls, st', setI M (a / 100) i (a % 100) v)) else none
        | _ => none : Option SR) = some (.inl r) := h
      split at h
      · cases h
        exact ⟨hl, hs', setI_ok hm hv⟩
      · split at h
        · cases h
          exact ⟨hl, hs', setI_ok hm hv⟩
        · split at h
          · cases h
            exact ⟨hl, hs', setI_ok hm hv⟩
          · cases h
      · cases h
  · cases h
theorem okI_iaload {S : Sc} {mi len a pc : Nat} {x : Int} {ls : Ls} {st : List Vv} {M : Mm} {own : String}  {r : Go} (hS : ∀ n xs, S = some (n, xs) → inR n ∧ ∀ j, inR (xs j)) (hl : okL ls) (hs : okS st) (hm : okM M) (h : sem1 S mi (.iaload) len a x pc ls st M = some (.inl r)) : okR r := by
  replace h : (match st with
      | .inl j :: .inr (.inr (t, i)) :: st' => (match S with
        | some (n, xs) => if t = 51 then (if 0 ≤ j ∧ j < n then goS (pc + 1) ls (.inl (xs j.toNat) :: st') M else none) else none
        | none => if aK t = 0 then (if 0 ≤ j ∧ j < aL t then goS (pc + 1) ls (.inl (M.1 t i j.toNat) :: st') M else none) else none)
      | _ => none) = some (.inl r) := h
  unfold goS at h
  split at h
  · next j t i st' =>
    have hs' := (okS_cons.mp (okS_cons.mp hs).2).2
    split at h
    · next n xs =>
      split at h
      · split at h
        · cases h
          exact ⟨hl, okS_cons.mpr ⟨(hS n xs rfl).2 _, hs'⟩, hm⟩
        · cases h
      · cases h
    · split at h
      · split at h
        · cases h
          exact ⟨hl, okS_cons.mpr ⟨hm _ _ _, hs'⟩, hm⟩
        · cases h
      · cases h
  · cases h
theorem okI_baload {S : Sc} {mi len a pc : Nat} {x : Int} {ls : Ls} {st : List Vv} {M : Mm} {own : String}  {r : Go}  (hl : okL ls) (hs : okS st) (hm : okM M) (h : sem1 S mi (.baload) len a x pc ls st M = some (.inl r)) : okR r := by
  replace h : (match st with
      | .inl j :: .inr (.inr (t, i)) :: st' => if aK t = 2 then (if 0 ≤ j ∧ j < aL t then goS (pc + 1) ls (.inl (M.1 t i j.toNat) :: st') M else none) else none
      | _ => none) = some (.inl r) := h
  unfold goS at h
  split at h
  · split at h
    · split at h
      · cases h
        exact ⟨hl, okS_cons.mpr ⟨hm _ _ _, (okS_cons.mp (okS_cons.mp hs).2).2⟩, hm⟩
      · cases h
    · cases h
  · cases h
theorem okI_laload {S : Sc} {mi len a pc : Nat} {x : Int} {ls : Ls} {st : List Vv} {M : Mm} {own : String}  {r : Go}  (hl : okL ls) (hs : okS st) (hm : okM M) (h : sem1 S mi (.laload) len a x pc ls st M = some (.inl r)) : okR r := by
  replace h : (match st with
      | .inl j :: .inr (.inr (t, i)) :: st' => if aK t = 1 then (if 0 ≤ j ∧ j < aL t then goS (pc + 1) ls (.inr (.inl (M.2 t i j.toNat)) :: st') M else none) else none
      | _ => none) = some (.inl r) := h
  unfold goS at h
  split at h
  · split at h
    · split at h
      · cases h
        exact ⟨hl, okS_cons.mpr ⟨trivial, (okS_cons.mp (okS_cons.mp hs).2).2⟩, hm⟩
      · cases h
    · cases h
  · cases h
theorem okI_aaload {S : Sc} {mi len a pc : Nat} {x : Int} {ls : Ls} {st : List Vv} {M : Mm} {own : String}  {r : Go}  (hl : okL ls) (hs : okS st) (hm : okM M) (h : sem1 S mi (.aaload) len a x pc ls st M = some (.inl r)) : okR r := by
  replace h : (match st with
      | .inl j :: .inr (.inr (t, i)) :: st' => if aK t = 3 then (if 0 ≤ j ∧ j < aL t then goS (pc + 1) ls (.inr (.inr (3, j.toNat)) :: st') M else none) else none
      | _ => none) = some (.inl r) := h
  unfold goS at h
  split at h
  · next j t i st' =>
    split at h
    · next h3 =>
      split at h
      · next hj =>
        cases h
        have hd : (t, i) ∈ dom := dom_of (okS_cons.mp (okS_cons.mp hs).2).1 (fun g => by subst g; cases h3)
        exact ⟨hl, okS_cons.mpr ⟨Or.inl (dom_a3 hd h3 (by omega)), (okS_cons.mp (okS_cons.mp hs).2).2⟩, hm⟩
      · cases h
    · cases h
  · cases h
theorem okI_iastore {S : Sc} {mi len a pc : Nat} {x : Int} {ls : Ls} {st : List Vv} {M : Mm} {own : String}  {r : Go}  (hl : okL ls) (hs : okS st) (hm : okM M) (h : sem1 S mi (.iastore) len a x pc ls st M = some (.inl r)) : okR r := by
  replace h : (match st with
      | .inl v :: .inl j :: .inr (.inr (t, i)) :: st' => if aK t = 0 then (if 0 ≤ j ∧ j < aL t then goS (pc + 1) ls st' (setI M t i j.toNat v) else none) else none
      | _ => none) = some (.inl r) := h
  unfold goS at h
  split at h
  · split at h
    · split at h
      · cases h
        exact ⟨hl, (okS_cons.mp (okS_cons.mp (okS_cons.mp hs).2).2).2, setI_ok hm (okS_cons.mp hs).1⟩
      · cases h
    · cases h
  · cases h
theorem okI_bastore {S : Sc} {mi len a pc : Nat} {x : Int} {ls : Ls} {st : List Vv} {M : Mm} {own : String}  {r : Go}  (hl : okL ls) (hs : okS st) (hm : okM M) (h : sem1 S mi (.bastore) len a x pc ls st M = some (.inl r)) : okR r := by
  replace h : (match st with
      | .inl v :: .inl j :: .inr (.inr (t, i)) :: st' => if aK t = 2 then (if v = 0 ∨ v = 1 then (if 0 ≤ j ∧ j < aL t then goS (pc + 1) ls st' (setI M t i j.toNat v) else none) else none) else none
      | _ => none) = some (.inl r) := h
  unfold goS at h
  split at h
  · split at h
    · split at h
      · split at h
        · cases h
          exact ⟨hl, (okS_cons.mp (okS_cons.mp (okS_cons.mp hs).2).2).2, setI_ok hm (okS_cons.mp hs).1⟩
        · cases h
      · cases h
    · cases h
  · cases h
theorem okI_lastore {S : Sc} {mi len a pc : Nat} {x : Int} {ls : Ls} {st : List Vv} {M : Mm} {own : String}  {r : Go}  (hl : okL ls) (hs : okS st) (hm : okM M) (h : sem1 S mi (.lastore) len a x pc ls st M = some (.inl r)) : okR r := by
  replace h : (match st with
      | .inr (.inl v) :: .inl j :: .inr (.inr (t, i)) :: st' => if aK t = 1 then (if 0 ≤ j ∧ j < aL t then goS (pc + 1) ls st' (setJ M t i j.toNat v) else none) else none
      | _ => none) = some (.inl r) := h
  unfold goS at h
  split at h
  · split at h
    · split at h
      · cases h
        exact ⟨hl, (okS_cons.mp (okS_cons.mp (okS_cons.mp hs).2).2).2, hm⟩
      · cases h
    · cases h
  · cases h
theorem okI_arraylength {S : Sc} {mi len a pc : Nat} {x : Int} {ls : Ls} {st : List Vv} {M : Mm} {own : String}  {r : Go} (hS : ∀ n xs, S = some (n, xs) → inR n ∧ ∀ j, inR (xs j)) (hl : okL ls) (hs : okS st) (hm : okM M) (h : sem1 S mi (.arraylength) len a x pc ls st M = some (.inl r)) : okR r := by
  replace h : (match st with
      | .inr (.inr (t, _)) :: st' => (match S with
        | some (n, _) => if t = 51 then goS (pc + 1) ls (.inl n :: st') M else none
        | none => if aK t < 4 then goS (pc + 1) ls (.inl (aL t) :: st') M else none)
      | _ => none) = some (.inl r) := h
  unfold goS at h
  split at h
  · next t i st' =>
    have hs' := (okS_cons.mp hs).2
    split at h
    · next n xs =>
      split at h
      · cases h
        exact ⟨hl, okS_cons.mpr ⟨(hS n xs rfl).1, hs'⟩, hm⟩
      · cases h
    · split at h
      · next h4 =>
        cases h
        have hd : (t, i) ∈ dom := dom_of (okS_cons.mp hs).1 (fun g => by subst g; revert h4; rw [aK51]; omega)
        have := dom_aL hd
        exact ⟨hl, okS_cons.mpr ⟨(by show inR _; unfold inR; omega), hs'⟩, hm⟩
      · cases h
  · cases h
theorem callS_no {a pc : Nat} {ls : Ls} {st : List Vv} {r : Go} (h : callS' a pc ls st = some (.inl r)) : False := by
  unfold callS' at h
  split at h
  · rw [Bool.cond_eq_ite] at h
    split at h <;> cases h
  · cases h
theorem callS_is {a pc : Nat} {ls : Ls} {st : List Vv} {q : SR} (h : callS' a pc ls st = some q) : ∃ as rest, q = .inr (.inl (a, as, pc, ls, rest)) ∧ popN (naM a) [] st = some (as, rest) ∧ entAlen rest ≤ 8 ∧ entAlen as ≤ lM a := by
  unfold callS' at h
  split at h
  · next as rest hp =>
    rw [Bool.cond_eq_ite] at h
    split at h
    · next hb =>
      cases h
      rw [Bool.and_eq_true] at hb
      exact ⟨as, rest, rfl, hp, Nat.le_of_ble_eq_true hb.1, Nat.le_of_ble_eq_true hb.2⟩
    · cases h
  · cases h
theorem virt_is {S : Sc} {mi len a pc idx : Nat} {x : Int} {ls : Ls} {st : List Vv} {M : Mm} {q : SR} (h : sem1 S mi (.invokevirtual idx) len a x pc ls st M = some q) : ∃ t i as rest, q = .inr (.inl (a, .inr (.inr (t, i)) :: as, pc + 3, ls, rest)) ∧ t = a / 100 ∧ popN (naM a) [] st = some (.inr (.inr (t, i)) :: as, rest) ∧ entAlen rest ≤ 8 ∧ entAlen (.inr (.inr (t, i)) :: as) ≤ lM a := by
  replace h : (match callS' a (pc + 3) ls st with
    | some (.inr (.inl (b, .inr (.inr (t, i)) :: as, q))) => bif Nat.beq t (a / 100) then some (.inr (.inl (b, .inr (.inr (t, i)) :: as, q))) else none
    | _ => none) = some q := h
  split at h
  · next b t i as q' hc =>
    obtain ⟨as0, rest, e, h1, h2, h3⟩ := callS_is hc
    cases e
    rw [Bool.cond_eq_ite] at h
    split at h
    · next hb =>
      cases h
      exact ⟨t, i, as, rest, rfl, Nat.eq_of_beq_eq_true hb, h1, h2, h3⟩
    · cases h
  · cases h
def isMM (a : Nat) : Bool := Nat.beq a 1102 || Nat.beq a 1103 || Nat.beq a 1105
theorem stat_is {S : Sc} {mi len a pc idx : Nat} {x : Int} {ls : Ls} {st : List Vv} {M : Mm} {q : SR} (ha : isMM a = false) (h : sem1 S mi (.invokestatic idx) len a x pc ls st M = some q) : ∃ as rest, q = .inr (.inl (a, as, pc + 3, ls, rest)) ∧ popN (naM a) [] st = some (as, rest) ∧ entAlen rest ≤ 8 ∧ entAlen as ≤ lM a := by
  unfold isMM at ha
  rw [Bool.or_eq_false_iff, Bool.or_eq_false_iff] at ha
  replace h : (bif Nat.beq a 1102 then (match (generalizing := false) st with
    | .inl y :: .inl x :: st' => bif Nat.ble st'.length 4 then goS (pc + 3) ls (.inl (if x < y then y else x) :: st') M else none
    | _ => none) else bif Nat.beq a 1103 then (match (generalizing := false) st with
    | .inl y :: .inl x :: st' => bif Nat.ble st'.length 4 then goS (pc + 3) ls (.inl (if y < x then y else x) :: st') M else none
    | _ => none) else bif Nat.beq a 1105 then (match (generalizing := false) st with
    | .inl x :: st' => bif Nat.ble st'.length 4 then goS (pc + 3) ls (.inl (if 0 ≤ x then x else wrap (-x)) :: st') M else none
    | _ => none) else callS' a (pc + 3) ls st) = some q := h
  rw [ha.1.1, ha.1.2, ha.2] at h
  exact callS_is h
theorem okI_m1102 {S : Sc} {mi len a pc : Nat} {x : Int} {ls : Ls} {st : List Vv} {M : Mm} {idx : Nat} {r : Go} (hl : okL ls) (hs : okS st) (hm : okM M) (ha : a = 1102) (h : sem1 S mi (.invokestatic idx) len a x pc ls st M = some (.inl r)) : okR r := by
  subst ha
  replace h : (match st with
    | .inl y :: .inl x :: st' => bif Nat.ble st'.length 4 then goS (pc + 3) ls (.inl (if x < y then y else x) :: st') M else none
    | _ => none) = some (.inl r) := h
  unfold goS at h
  split at h
  · next y x' st' =>
    rw [Bool.cond_eq_ite] at h
    split at h
    · cases h
      have h1 := okS_cons.mp hs
      have h2 := okS_cons.mp h1.2
      refine ⟨hl, okS_cons.mpr ⟨?_, h2.2⟩, hm⟩
      split
      · exact h1.1
      · exact h2.1
    · cases h
  · cases h
theorem okI_m1105 {S : Sc} {mi len a pc : Nat} {x : Int} {ls : Ls} {st : List Vv} {M : Mm} {idx : Nat} {r : Go} (hl : okL ls) (hs : okS st) (hm : okM M) (ha : a = 1105) (h : sem1 S mi (.invokestatic idx) len a x pc ls st M = some (.inl r)) : okR r := by
  subst ha
  replace h : (match st with
    | .inl x :: st' => bif Nat.ble st'.length 4 then goS (pc + 3) ls (.inl (if 0 ≤ x then x else wrap (-x)) :: st') M else none
    | _ => none) = some (.inl r) := h
  unfold goS at h
  split at h
  · next x' st' =>
    rw [Bool.cond_eq_ite] at h
    split at h
    · cases h
      have h1 := okS_cons.mp hs
      refine ⟨hl, okS_cons.mpr ⟨?_, h1.2⟩, hm⟩
      split
      · exact h1.1
      · exact wrap_in _
    · cases h
  · cases h
theorem okI_m1103 {S : Sc} {mi len a pc : Nat} {x : Int} {ls : Ls} {st : List Vv} {M : Mm} {idx : Nat} {r : Go} (hl : okL ls) (hs : okS st) (hm : okM M) (ha : a = 1103) (h : sem1 S mi (.invokestatic idx) len a x pc ls st M = some (.inl r)) : okR r := by
  subst ha
  replace h : (match st with
    | .inl y :: .inl x :: st' => bif Nat.ble st'.length 4 then goS (pc + 3) ls (.inl (if y < x then y else x) :: st') M else none
    | _ => none) = some (.inl r) := h
  unfold goS at h
  split at h
  · next y x' st' =>
    rw [Bool.cond_eq_ite] at h
    split at h
    · cases h
      have h1 := okS_cons.mp hs
      have h2 := okS_cons.mp h1.2
      refine ⟨hl, okS_cons.mpr ⟨?_, h2.2⟩, hm⟩
      split
      · exact h1.1
      · exact h2.1
    · cases h
  · cases h
def endI (i : Jvm.ClassFile.Instr) : Bool := match i with
  | .ireturn => true
  | .lreturn => true
  | .areturn => true
  | .return_ => true
  | .new _ => true
  | .invokevirtual _ => true
  | .invokestatic _ => true
  | _ => false
theorem goes_on {S : Sc} {mi : Nat} {i : Jvm.ClassFile.Instr} {len a pc : Nat} {x : Int} {ls : Ls} {st : List Vv} {M : Mm} {q : SR} (hc : endI i = false) (h : sem1 S mi i len a x pc ls st M = some q) : ∃ r, q = .inl r := by
  cases i with
  | aload_n k =>
    replace h : (ldR ls k (pc + 1) st M) = some q := h
    simp only [ldI, ldJ, ldR, seI, seJ, seR, opI, opJ, opS, goS, Bool.cond_eq_ite] at h
    repeat' (split at h)
    all_goals (first | (cases h; exact ⟨_, rfl⟩) | cases h)
  | aload k =>
    replace h : (ldR ls k (pc + 2) st M) = some q := h
    simp only [ldI, ldJ, ldR, seI, seJ, seR, opI, opJ, opS, goS, Bool.cond_eq_ite] at h
    repeat' (split at h)
    all_goals (first | (cases h; exact ⟨_, rfl⟩) | cases h)
  | iload_n k =>
    replace h : (ldI ls k (pc + 1) st M) = some q := h
    simp only [ldI, ldJ, ldR, seI, seJ, seR, opI, opJ, opS, goS, Bool.cond_eq_ite] at h
    repeat' (split at h)
    all_goals (first | (cases h; exact ⟨_, rfl⟩) | cases h)
  | iload k =>
    replace h : (ldI ls k (pc + 2) st M) = some q := h
    simp only [ldI, ldJ, ldR, seI, seJ, seR, opI, opJ, opS, goS, Bool.cond_eq_ite] at h
    repeat' (split at h)
    all_goals (first | (cases h; exact ⟨_, rfl⟩) | cases h)
  | lload_n k =>
    replace h : (ldJ ls k (pc + 1) st M) = some q := h
    simp only [ldI, ldJ, ldR, seI, seJ, seR, opI, opJ, opS, goS, Bool.cond_eq_ite] at h
    repeat' (split at h)
    all_goals (first | (cases h; exact ⟨_, rfl⟩) | cases h)
  | lload k =>
    replace h : (ldJ ls k (pc + 2) st M) = some q := h
    simp only [ldI, ldJ, ldR, seI, seJ, seR, opI, opJ, opS, goS, Bool.cond_eq_ite] at h
    repeat' (split at h)
    all_goals (first | (cases h; exact ⟨_, rfl⟩) | cases h)
  | istore_n k =>
    replace h : (seI ls k (pc + 1) st M) = some q := h
    simp only [ldI, ldJ, ldR, seI, seJ, seR, opI, opJ, opS, goS, Bool.cond_eq_ite] at h
    repeat' (split at h)
    all_goals (first | (cases h; exact ⟨_, rfl⟩) | cases h)
  | istore k =>
    replace h : (seI ls k (pc + 2) st M) = some q := h
    simp only [ldI, ldJ, ldR, seI, seJ, seR, opI, opJ, opS, goS, Bool.cond_eq_ite] at h
    repeat' (split at h)
    all_goals (first | (cases h; exact ⟨_, rfl⟩) | cases h)
  | lstore_n k =>
    replace h : (seJ ls k (pc + 1) st M) = some q := h
    simp only [ldI, ldJ, ldR, seI, seJ, seR, opI, opJ, opS, goS, Bool.cond_eq_ite] at h
    repeat' (split at h)
    all_goals (first | (cases h; exact ⟨_, rfl⟩) | cases h)
  | lstore k =>
    replace h : (seJ ls k (pc + 2) st M) = some q := h
    simp only [ldI, ldJ, ldR, seI, seJ, seR, opI, opJ, opS, goS, Bool.cond_eq_ite] at h
    repeat' (split at h)
    all_goals (first | (cases h; exact ⟨_, rfl⟩) | cases h)
  | astore_n k =>
    replace h : (seR ls k (pc + 1) st M) = some q := h
    simp only [ldI, ldJ, ldR, seI, seJ, seR, opI, opJ, opS, goS, Bool.cond_eq_ite] at h
    repeat' (split at h)
    all_goals (first | (cases h; exact ⟨_, rfl⟩) | cases h)
  | astore k =>
    replace h : (seR ls k (pc + 2) st M) = some q := h
    simp only [ldI, ldJ, ldR, seI, seJ, seR, opI, opJ, opS, goS, Bool.cond_eq_ite] at h
    repeat' (split at h)
    all_goals (first | (cases h; exact ⟨_, rfl⟩) | cases h)
  | iconst n =>
    replace h : (goS (pc + 1) ls (.inl n :: st) M) = some q := h
    cases h
    exact ⟨_, rfl⟩
  | bipush n =>
    replace h : (goS (pc + 2) ls (.inl n :: st) M) = some q := h
    cases h
    exact ⟨_, rfl⟩
  | sipush n =>
    replace h : (goS (pc + 3) ls (.inl n :: st) M) = some q := h
    cases h
    exact ⟨_, rfl⟩
  | lconst n =>
    replace h : (goS (pc + 1) ls (.inr (.inl (Int64.ofNat n)) :: st) M) = some q := h
    cases h
    exact ⟨_, rfl⟩
  | ldc _ =>
    replace h : (goS (pc + 2) ls (.inl x :: st) M) = some q := h
    cases h
    exact ⟨_, rfl⟩
  | ldc_w _ =>
    replace h : (goS (pc + 3) ls (.inl x :: st) M) = some q := h
    cases h
    exact ⟨_, rfl⟩
  | ldc2_w _ =>
    replace h : (goS (pc + 3) ls (.inr (.inl (Int64.ofInt x)) :: st) M) = some q := h
    cases h
    exact ⟨_, rfl⟩
  | iadd =>
    replace h : (opI (fun u v => wrap (u + v)) ls (pc + 1) st M) = some q := h
    simp only [ldI, ldJ, ldR, seI, seJ, seR, opI, opJ, opS, goS, Bool.cond_eq_ite] at h
    repeat' (split at h)
    all_goals (first | (cases h; exact ⟨_, rfl⟩) | cases h)
  | isub =>
    replace h : (opI (fun u v => wrap (u - v)) ls (pc + 1) st M) = some q := h
    simp only [ldI, ldJ, ldR, seI, seJ, seR, opI, opJ, opS, goS, Bool.cond_eq_ite] at h
    repeat' (split at h)
    all_goals (first | (cases h; exact ⟨_, rfl⟩) | cases h)
  | imul =>
    replace h : (opI (fun u v => wrap (u * v)) ls (pc + 1) st M) = some q := h
    simp only [ldI, ldJ, ldR, seI, seJ, seR, opI, opJ, opS, goS, Bool.cond_eq_ite] at h
    repeat' (split at h)
    all_goals (first | (cases h; exact ⟨_, rfl⟩) | cases h)
  | idiv =>
    replace h : (match (generalizing := false) st with
        | .inl y :: .inl x :: st' => if y = 0 then none else goS (pc + 1) ls (.inl (idv x y) :: st') M
        | _ => none) = some q := h
    simp only [ldI, ldJ, ldR, seI, seJ, seR, opI, opJ, opS, goS, Bool.cond_eq_ite] at h
    repeat' (split at h)
    all_goals (first | (cases h; exact ⟨_, rfl⟩) | cases h)
  | irem =>
    replace h : (match (generalizing := false) st with
        | .inl y :: .inl x :: st' => if y = 0 then none else goS (pc + 1) ls (.inl (irm x y) :: st') M
        | _ => none) = some q := h
    simp only [ldI, ldJ, ldR, seI, seJ, seR, opI, opJ, opS, goS, Bool.cond_eq_ite] at h
    repeat' (split at h)
    all_goals (first | (cases h; exact ⟨_, rfl⟩) | cases h)
  | ineg =>
    replace h : (match (generalizing := false) st with
        | .inl x :: st' => goS (pc + 1) ls (.inl (wrap (-x)) :: st') M
        | _ => none) = some q := h
    simp only [ldI, ldJ, ldR, seI, seJ, seR, opI, opJ, opS, goS, Bool.cond_eq_ite] at h
    repeat' (split at h)
    all_goals (first | (cases h; exact ⟨_, rfl⟩) | cases h)
  | pop =>
    replace h : (match (generalizing := false) st with
        | .inl _ :: st' => goS (pc + 1) ls st' M
        | _ => none) = some q := h
    simp only [ldI, ldJ, ldR, seI, seJ, seR, opI, opJ, opS, goS, Bool.cond_eq_ite] at h
    repeat' (split at h)
    all_goals (first | (cases h; exact ⟨_, rfl⟩) | cases h)
  | iand =>
    replace h : (opI ian ls (pc + 1) st M) = some q := h
    simp only [ldI, ldJ, ldR, seI, seJ, seR, opI, opJ, opS, goS, Bool.cond_eq_ite] at h
    repeat' (split at h)
    all_goals (first | (cases h; exact ⟨_, rfl⟩) | cases h)
  | ior =>
    replace h : (opI ior' ls (pc + 1) st M) = some q := h
    simp only [ldI, ldJ, ldR, seI, seJ, seR, opI, opJ, opS, goS, Bool.cond_eq_ite] at h
    repeat' (split at h)
    all_goals (first | (cases h; exact ⟨_, rfl⟩) | cases h)
  | ixor =>
    replace h : (opI ixr ls (pc + 1) st M) = some q := h
    simp only [ldI, ldJ, ldR, seI, seJ, seR, opI, opJ, opS, goS, Bool.cond_eq_ite] at h
    repeat' (split at h)
    all_goals (first | (cases h; exact ⟨_, rfl⟩) | cases h)
  | ishl =>
    replace h : (opI ish ls (pc + 1) st M) = some q := h
    simp only [ldI, ldJ, ldR, seI, seJ, seR, opI, opJ, opS, goS, Bool.cond_eq_ite] at h
    repeat' (split at h)
    all_goals (first | (cases h; exact ⟨_, rfl⟩) | cases h)
  | ishr =>
    replace h : (opI isr ls (pc + 1) st M) = some q := h
    simp only [ldI, ldJ, ldR, seI, seJ, seR, opI, opJ, opS, goS, Bool.cond_eq_ite] at h
    repeat' (split at h)
    all_goals (first | (cases h; exact ⟨_, rfl⟩) | cases h)
  | iushr =>
    replace h : (opI ius ls (pc + 1) st M) = some q := h
    simp only [ldI, ldJ, ldR, seI, seJ, seR, opI, opJ, opS, goS, Bool.cond_eq_ite] at h
    repeat' (split at h)
    all_goals (first | (cases h; exact ⟨_, rfl⟩) | cases h)
  | ladd =>
    replace h : (opJ (fun u v => u + v) ls (pc + 1) st M) = some q := h
    simp only [ldI, ldJ, ldR, seI, seJ, seR, opI, opJ, opS, goS, Bool.cond_eq_ite] at h
    repeat' (split at h)
    all_goals (first | (cases h; exact ⟨_, rfl⟩) | cases h)
  | lsub =>
    replace h : (opJ (fun u v => u - v) ls (pc + 1) st M) = some q := h
    simp only [ldI, ldJ, ldR, seI, seJ, seR, opI, opJ, opS, goS, Bool.cond_eq_ite] at h
    repeat' (split at h)
    all_goals (first | (cases h; exact ⟨_, rfl⟩) | cases h)
  | land =>
    replace h : (opJ (fun u v => u &&& v) ls (pc + 1) st M) = some q := h
    simp only [ldI, ldJ, ldR, seI, seJ, seR, opI, opJ, opS, goS, Bool.cond_eq_ite] at h
    repeat' (split at h)
    all_goals (first | (cases h; exact ⟨_, rfl⟩) | cases h)
  | lor =>
    replace h : (opJ (fun u v => u ||| v) ls (pc + 1) st M) = some q := h
    simp only [ldI, ldJ, ldR, seI, seJ, seR, opI, opJ, opS, goS, Bool.cond_eq_ite] at h
    repeat' (split at h)
    all_goals (first | (cases h; exact ⟨_, rfl⟩) | cases h)
  | lxor =>
    replace h : (opJ (fun u v => u ^^^ v) ls (pc + 1) st M) = some q := h
    simp only [ldI, ldJ, ldR, seI, seJ, seR, opI, opJ, opS, goS, Bool.cond_eq_ite] at h
    repeat' (split at h)
    all_goals (first | (cases h; exact ⟨_, rfl⟩) | cases h)
  | lshl =>
    replace h : (opS lsh ls (pc + 1) st M) = some q := h
    simp only [ldI, ldJ, ldR, seI, seJ, seR, opI, opJ, opS, goS, Bool.cond_eq_ite] at h
    repeat' (split at h)
    all_goals (first | (cases h; exact ⟨_, rfl⟩) | cases h)
  | lshr =>
    replace h : (opS lsr ls (pc + 1) st M) = some q := h
    simp only [ldI, ldJ, ldR, seI, seJ, seR, opI, opJ, opS, goS, Bool.cond_eq_ite] at h
    repeat' (split at h)
    all_goals (first | (cases h; exact ⟨_, rfl⟩) | cases h)
  | lushr =>
    replace h : (opS lus ls (pc + 1) st M) = some q := h
    simp only [ldI, ldJ, ldR, seI, seJ, seR, opI, opJ, opS, goS, Bool.cond_eq_ite] at h
    repeat' (split at h)
    all_goals (first | (cases h; exact ⟨_, rfl⟩) | cases h)
  | lneg =>
    replace h : (match (generalizing := false) st with
        | .inr (.inl x) :: st' => goS (pc + 1) ls (.inr (.inl (-x)) :: st') M
        | _ => none) = some q := h
    simp only [ldI, ldJ, ldR, seI, seJ, seR, opI, opJ, opS, goS, Bool.cond_eq_ite] at h
    repeat' (split at h)
    all_goals (first | (cases h; exact ⟨_, rfl⟩) | cases h)
  | lcmp =>
    replace h : (match (generalizing := false) st with
        | .inr (.inl y) :: .inr (.inl x) :: st' => goS (pc + 1) ls (.inl (lcm x y) :: st') M
        | _ => none) = some q := h
    simp only [ldI, ldJ, ldR, seI, seJ, seR, opI, opJ, opS, goS, Bool.cond_eq_ite] at h
    repeat' (split at h)
    all_goals (first | (cases h; exact ⟨_, rfl⟩) | cases h)
  | i2l =>
    replace h : (match (generalizing := false) st with
        | .inl x :: st' => goS (pc + 1) ls (.inr (.inl (Int32.ofInt x).toInt64) :: st') M
        | _ => none) = some q := h
    simp only [ldI, ldJ, ldR, seI, seJ, seR, opI, opJ, opS, goS, Bool.cond_eq_ite] at h
    repeat' (split at h)
    all_goals (first | (cases h; exact ⟨_, rfl⟩) | cases h)
  | l2i =>
    replace h : (match (generalizing := false) st with
        | .inr (.inl x) :: st' => goS (pc + 1) ls (.inl x.toInt32.toInt :: st') M
        | _ => none) = some q := h
    simp only [ldI, ldJ, ldR, seI, seJ, seR, opI, opJ, opS, goS, Bool.cond_eq_ite] at h
    repeat' (split at h)
    all_goals (first | (cases h; exact ⟨_, rfl⟩) | cases h)
  | iinc k n =>
    replace h : (match (generalizing := false) getL ls k with
        | some (.inl v) => bif Nat.blt k ls.length then goS (pc + 3) (stI ls k (.inl (wrap (v + n)))) st M else none
        | _ => none) = some q := h
    simp only [ldI, ldJ, ldR, seI, seJ, seR, opI, opJ, opS, goS, Bool.cond_eq_ite] at h
    repeat' (split at h)
    all_goals (first | (cases h; exact ⟨_, rfl⟩) | cases h)
  | dup =>
    replace h : (match (generalizing := false) st with
        | .inl v :: st' => goS (pc + 1) ls (.inl v :: .inl v :: st') M
        | .inr (.inr v) :: st' => goS (pc + 1) ls (.inr (.inr v) :: .inr (.inr v) :: st') M
        | _ => none) = some q := h
    simp only [ldI, ldJ, ldR, seI, seJ, seR, opI, opJ, opS, goS, Bool.cond_eq_ite] at h
    repeat' (split at h)
    all_goals (first | (cases h; exact ⟨_, rfl⟩) | cases h)
  | dup2 =>
    replace h : (match (generalizing := false) st with
        | .inl v :: .inr (.inr w) :: st' => goS (pc + 1) ls (.inl v :: .inr (.inr w) :: .inl v :: .inr (.inr w) :: st') M
        | _ => none) = some q := h
    simp only [ldI, ldJ, ldR, seI, seJ, seR, opI, opJ, opS, goS, Bool.cond_eq_ite] at h
    repeat' (split at h)
    all_goals (first | (cases h; exact ⟨_, rfl⟩) | cases h)
  | goto _ =>
    replace h : (goS a ls st M) = some q := h
    cases h
    exact ⟨_, rfl⟩
  | ifCond c _ =>
    replace h : (match (generalizing := false) st with
        | .inl x :: st' => goS (cmp0 c x a (pc + 3)) ls st' M
        | _ => none) = some q := h
    simp only [ldI, ldJ, ldR, seI, seJ, seR, opI, opJ, opS, goS, Bool.cond_eq_ite] at h
    repeat' (split at h)
    all_goals (first | (cases h; exact ⟨_, rfl⟩) | cases h)
  | if_icmp c _ =>
    replace h : (match (generalizing := false) st with
        | .inl y :: .inl x :: st' => goS (cmp2 c x y a (pc + 3)) ls st' M
        | _ => none) = some q := h
    simp only [ldI, ldJ, ldR, seI, seJ, seR, opI, opJ, opS, goS, Bool.cond_eq_ite] at h
    repeat' (split at h)
    all_goals (first | (cases h; exact ⟨_, rfl⟩) | cases h)
  | ifnull _ =>
    replace h : (match (generalizing := false) st with
        | .inr (.inr _) :: st' => goS (pc + 3) ls st' M
        | _ => none) = some q := h
    simp only [ldI, ldJ, ldR, seI, seJ, seR, opI, opJ, opS, goS, Bool.cond_eq_ite] at h
    repeat' (split at h)
    all_goals (first | (cases h; exact ⟨_, rfl⟩) | cases h)
  | tableswitch dflt lo hi offs =>
    replace h : (match (generalizing := false) st with
        | .inl v :: st' => goS (tswT pc dflt lo hi offs v) ls st' M
        | _ => none) = some q := h
    simp only [ldI, ldJ, ldR, seI, seJ, seR, opI, opJ, opS, goS, Bool.cond_eq_ite] at h
    repeat' (split at h)
    all_goals (first | (cases h; exact ⟨_, rfl⟩) | cases h)
  | lookupswitch dflt ps =>
    replace h : (match (generalizing := false) st with
        | .inl v :: st' => bif (ps.toList.zip (ps.toList.drop 1)).all (fun (a, next) => a.1 < next.1) then goS ((pc : Int) + Op.lookupswitch.offset ps.toList dflt v).toNat ls st' M else none
        | _ => none) = some q := h
    simp only [ldI, ldJ, ldR, seI, seJ, seR, opI, opJ, opS, goS, Bool.cond_eq_ite] at h
    repeat' (split at h)
    all_goals (first | (cases h; exact ⟨_, rfl⟩) | cases h)
  | getfield _ =>
    replace h : (match (generalizing := false) st with
        | .inr (.inr (t, i)) :: st' => bif Nat.beq t (a / 100) then (match (generalizing := false) fK (a / 100) (a % 100) with
          | 0 => goS (pc + 3) ls (.inl (M.1 (a / 100) i (a % 100)) :: st') M
          | 1 => goS (pc + 3) ls (.inl (M.1 (a / 100) i (a % 100)) :: st') M
          | 2 => goS (pc + 3) ls (.inr (.inr (a + 100, i)) :: st') M
          | _ => goS (pc + 3) ls (.inr (.inr (oF a i)) :: st') M) else none
        | _ => none) = some q := h
    simp only [ldI, ldJ, ldR, seI, seJ, seR, opI, opJ, opS, goS, Bool.cond_eq_ite] at h
    repeat' (split at h)
    all_goals (first | (cases h; exact ⟨_, rfl⟩) | cases h)
  | putfield _ =>
    replace h : (match (generalizing := false) st with
        | .inl v :: .inr (.inr (t, i)) :: st' => bif Nat.beq t (a / 100) then (match (generalizing := false) fK (a / 100) (a % 100) with
          | 0 => goS (pc + 3) ls st' (setI M (a / 100) i (a % 100) v)
          | 1 => if v = 0 then goS (pc + 3) ls st' (setI M (a / 100) i (a % 100) v) else if v = 1 then goS (pc + 3) ls st' (setI M (a / 100) i (a % 100) v) else none
          | _ => none) else none
        | _ => none) = some q := h
    simp only [ldI, ldJ, ldR, seI, seJ, seR, opI, opJ, opS, goS, Bool.cond_eq_ite] at h
    repeat' (split at h)
    all_goals (first | (cases h; exact ⟨_, rfl⟩) | cases h)
  | iaload =>
    replace h : (match (generalizing := false) st with
        | .inl j :: .inr (.inr (t, i)) :: st' => (match (generalizing := false) S with
          | some (n, xs) => if t = 51 then (if 0 ≤ j ∧ j < n then goS (pc + 1) ls (.inl (xs j.toNat) :: st') M else none) else none
          | none => if aK t = 0 then (if 0 ≤ j ∧ j < aL t then goS (pc + 1) ls (.inl (M.1 t i j.toNat) :: st') M else none) else none)
        | _ => none) = some q := h
    simp only [ldI, ldJ, ldR, seI, seJ, seR, opI, opJ, opS, goS, Bool.cond_eq_ite] at h
    repeat' (split at h)
    all_goals (first | (cases h; exact ⟨_, rfl⟩) | cases h)
  | baload =>
    replace h : (match (generalizing := false) st with
        | .inl j :: .inr (.inr (t, i)) :: st' => if aK t = 2 then (if 0 ≤ j ∧ j < aL t then goS (pc + 1) ls (.inl (M.1 t i j.toNat) :: st') M else none) else none
        | _ => none) = some q := h
    simp only [ldI, ldJ, ldR, seI, seJ, seR, opI, opJ, opS, goS, Bool.cond_eq_ite] at h
    repeat' (split at h)
    all_goals (first | (cases h; exact ⟨_, rfl⟩) | cases h)
  | laload =>
    replace h : (match (generalizing := false) st with
        | .inl j :: .inr (.inr (t, i)) :: st' => if aK t = 1 then (if 0 ≤ j ∧ j < aL t then goS (pc + 1) ls (.inr (.inl (M.2 t i j.toNat)) :: st') M else none) else none
        | _ => none) = some q := h
    simp only [ldI, ldJ, ldR, seI, seJ, seR, opI, opJ, opS, goS, Bool.cond_eq_ite] at h
    repeat' (split at h)
    all_goals (first | (cases h; exact ⟨_, rfl⟩) | cases h)
  | aaload =>
    replace h : (match (generalizing := false) st with
        | .inl j :: .inr (.inr (t, i)) :: st' => if aK t = 3 then (if 0 ≤ j ∧ j < aL t then goS (pc + 1) ls (.inr (.inr (3, j.toNat)) :: st') M else none) else none
        | _ => none) = some q := h
    simp only [ldI, ldJ, ldR, seI, seJ, seR, opI, opJ, opS, goS, Bool.cond_eq_ite] at h
    repeat' (split at h)
    all_goals (first | (cases h; exact ⟨_, rfl⟩) | cases h)
  | iastore =>
    replace h : (match (generalizing := false) st with
        | .inl v :: .inl j :: .inr (.inr (t, i)) :: st' => if aK t = 0 then (if 0 ≤ j ∧ j < aL t then goS (pc + 1) ls st' (setI M t i j.toNat v) else none) else none
        | _ => none) = some q := h
    simp only [ldI, ldJ, ldR, seI, seJ, seR, opI, opJ, opS, goS, Bool.cond_eq_ite] at h
    repeat' (split at h)
    all_goals (first | (cases h; exact ⟨_, rfl⟩) | cases h)
  | bastore =>
    replace h : (match (generalizing := false) st with
        | .inl v :: .inl j :: .inr (.inr (t, i)) :: st' => if aK t = 2 then (if v = 0 ∨ v = 1 then (if 0 ≤ j ∧ j < aL t then goS (pc + 1) ls st' (setI M t i j.toNat v) else none) else none) else none
        | _ => none) = some q := h
    simp only [ldI, ldJ, ldR, seI, seJ, seR, opI, opJ, opS, goS, Bool.cond_eq_ite] at h
    repeat' (split at h)
    all_goals (first | (cases h; exact ⟨_, rfl⟩) | cases h)
  | lastore =>
    replace h : (match (generalizing := false) st with
        | .inr (.inl v) :: .inl j :: .inr (.inr (t, i)) :: st' => if aK t = 1 then (if 0 ≤ j ∧ j < aL t then goS (pc + 1) ls st' (setJ M t i j.toNat v) else none) else none
        | _ => none) = some q := h
    simp only [ldI, ldJ, ldR, seI, seJ, seR, opI, opJ, opS, goS, Bool.cond_eq_ite] at h
    repeat' (split at h)
    all_goals (first | (cases h; exact ⟨_, rfl⟩) | cases h)
  | arraylength =>
    replace h : (match (generalizing := false) st with
        | .inr (.inr (t, _)) :: st' => (match (generalizing := false) S with
          | some (n, _) => if t = 51 then goS (pc + 1) ls (.inl n :: st') M else none
          | none => if aK t < 4 then goS (pc + 1) ls (.inl (aL t) :: st') M else none)
        | _ => none) = some q := h
    simp only [ldI, ldJ, ldR, seI, seJ, seR, opI, opJ, opS, goS, Bool.cond_eq_ite] at h
    repeat' (split at h)
    all_goals (first | (cases h; exact ⟨_, rfl⟩) | cases h)
  | invokevirtual _ => cases hc
  | invokestatic _ => cases hc
  | ireturn => cases hc
  | lreturn => cases hc
  | areturn => cases hc
  | return_ => cases hc
  | new _ => cases hc
  | _ => cases h
theorem sem1_ok {S : Sc} {mi : Nat} {own : String} {i : Jvm.ClassFile.Instr} {len a pc : Nat} {x : Int} {ls : Ls} {st : List Vv} {M : Mm} {r : Go} (hS : ∀ n xs, S = some (n, xs) → inR n ∧ ∀ j, inR (xs j)) (hok : okB own pc (i, len, a, x) = true) (hl : okL ls) (hs : okS st) (hm : okM M) (h : sem1 S mi i len a x pc ls st M = some (.inl r)) : okR r := by
  cases i with
  | aload_n k => exact ok_ldR h hl hs hm
  | aload k => exact ok_ldR h hl hs hm
  | iload_n k => exact ok_ldI h hl hs hm
  | iload k => exact ok_ldI h hl hs hm
  | lload_n k => exact ok_ldJ h hl hs hm
  | lload k => exact ok_ldJ h hl hs hm
  | istore_n k => exact ok_seI h hl hs hm
  | istore k => exact ok_seI h hl hs hm
  | lstore_n k => exact ok_seJ h hl hs hm
  | lstore k => exact ok_seJ h hl hs hm
  | astore_n k => exact ok_seR h hl hs hm
  | astore k => exact ok_seR h hl hs hm
  | iconst n => exact okI_iconst (own := own) hok hl hs hm h
  | bipush n => exact okI_bipush (own := own) hok hl hs hm h
  | sipush n => exact okI_sipush (own := own) hok hl hs hm h
  | lconst n => cases h; exact ⟨hl, okS_cons.mpr ⟨trivial, hs⟩, hm⟩
  | ldc _ => cases h; exact ⟨hl, okS_cons.mpr ⟨kc_in hok, hs⟩, hm⟩
  | ldc_w _ => cases h; exact ⟨hl, okS_cons.mpr ⟨kc_in hok, hs⟩, hm⟩
  | ldc2_w _ => cases h; exact ⟨hl, okS_cons.mpr ⟨trivial, hs⟩, hm⟩
  | iadd => exact ok_opI (fun _ _ => wrap_in _) h hl hs hm
  | isub => exact ok_opI (fun _ _ => wrap_in _) h hl hs hm
  | imul => exact ok_opI (fun _ _ => wrap_in _) h hl hs hm
  | idiv => exact okI_idiv (own := own) hl hs hm h
  | irem => exact okI_irem (own := own) hl hs hm h
  | ineg => exact okI_ineg (own := own) hl hs hm h
  | pop => exact okI_pop (own := own) hl hs hm h
  | iand => exact ok_opI (fun _ _ => ti_in _) h hl hs hm
  | ior => exact ok_opI (fun _ _ => ti_in _) h hl hs hm
  | ixor => exact ok_opI (fun _ _ => ti_in _) h hl hs hm
  | ishl => exact ok_opI (fun _ _ => ti_in _) h hl hs hm
  | ishr => exact ok_opI (fun _ _ => ti_in _) h hl hs hm
  | iushr => exact ok_opI (fun _ _ => ti_in _) h hl hs hm
  | ladd => exact ok_opJ h hl hs hm
  | lsub => exact ok_opJ h hl hs hm
  | land => exact ok_opJ h hl hs hm
  | lor => exact ok_opJ h hl hs hm
  | lxor => exact ok_opJ h hl hs hm
  | lshl => exact ok_opS h hl hs hm
  | lshr => exact ok_opS h hl hs hm
  | lushr => exact ok_opS h hl hs hm
  | lneg => exact okI_lneg (own := own) hl hs hm h
  | lcmp => exact okI_lcmp (own := own) hl hs hm h
  | i2l => exact okI_i2l (own := own) hl hs hm h
  | l2i => exact okI_l2i (own := own) hl hs hm h
  | iinc k n => exact okI_iinc (own := own) hl hs hm h
  | dup => exact okI_dup (own := own) hl hs hm h
  | dup2 => exact okI_dup2 (own := own) hl hs hm h
  | goto _ => cases h; exact ⟨hl, hs, hm⟩
  | ifCond c _ => exact okI_ifCond (own := own) hl hs hm h
  | if_icmp c _ => exact okI_if_icmp (own := own) hl hs hm h
  | ifnull _ => exact okI_ifnull (own := own) hl hs hm h
  | tableswitch dflt lo hi offs => exact okI_tableswitch (own := own) hl hs hm h
  | lookupswitch dflt ps => exact okI_lookupswitch (own := own) hl hs hm h
  | getfield _ => exact okI_getfield (own := own) hok hl hs hm h
  | putfield _ => exact okI_putfield (own := own) hl hs hm h
  | iaload => exact okI_iaload (own := own) hS hl hs hm h
  | baload => exact okI_baload (own := own) hl hs hm h
  | laload => exact okI_laload (own := own) hl hs hm h
  | aaload => exact okI_aaload (own := own) hl hs hm h
  | iastore => exact okI_iastore (own := own) hl hs hm h
  | bastore => exact okI_bastore (own := own) hl hs hm h
  | lastore => exact okI_lastore (own := own) hl hs hm h
  | arraylength => exact okI_arraylength (own := own) hS hl hs hm h
  | invokevirtual _ => obtain ⟨_, _, _, _, e, _⟩ := virt_is h; cases e
  | invokestatic _ => 
    cases ha : isMM a with
    | false => obtain ⟨_, _, e, _⟩ := stat_is ha h; cases e
    | true =>
      unfold isMM at ha
      rw [Bool.or_eq_true, Bool.or_eq_true] at ha
      rcases ha with (g | g) | g
      · exact okI_m1102 hl hs hm (Nat.eq_of_beq_eq_true g) h
      · exact okI_m1103 hl hs hm (Nat.eq_of_beq_eq_true g) h
      · exact okI_m1105 hl hs hm (Nat.eq_of_beq_eq_true g) h
  | ireturn => 
    replace h : (match st with
        | [.inl v] => if rkM mi = 1 then doneS (.inl (some (.inl v))) else if rkM mi = 2 then (if v = 0 ∨ v = 1 then doneS (.inl (some (.inl v))) else none) else none
        | _ => none) = some (.inl r) := h
    unfold doneS at h
    repeat' (split at h)
    all_goals (cases h)
  | lreturn => 
    replace h : (match st with
        | [.inr (.inl v)] => if rkM mi = 3 then doneS (.inl (some (.inr (.inl v)))) else none
        | _ => none) = some (.inl r) := h
    unfold doneS at h
    repeat' (split at h)
    all_goals (cases h)
  | areturn => 
    replace h : (match st with
        | [.inr (.inr v)] => if rkM mi = 4 then doneS (.inl (some (.inr (.inr v)))) else none
        | _ => none) = some (.inl r) := h
    unfold doneS at h
    repeat' (split at h)
    all_goals (cases h)
  | return_ => 
    replace h : (match st with
        | [] => if rkM mi = 0 then doneS (.inl none) else none
        | _ => none) = some (.inl r) := h
    unfold doneS at h
    repeat' (split at h)
    all_goals (cases h)
  | new _ => 
    replace h : (if kdM mi = 1 then (match st with
        | [] => doneS (.inr a)
        | _ => none) else none) = some (.inl r) := h
    unfold doneS at h
    repeat' (split at h)
    all_goals (cases h)
  | _ => cases h
section ST3
variable {p : Program} {l : Launch} {e : Env} {R : Room} {s : State} {m : MethodId} {args : Array Value} {below : List Frame} {meth : Method} {c : Code} {H : Heap} {locs : List Loc} {cells slots : Nat} {Q : State → Prop}
variable {D : va_G} {cy : Cy} {ad : Nat → Nat → Nat} {A : Nat → Prop} {H0 : Heap} {mi : Nat} {S : Sc}
theorem stepW (F : Fr p s m args c D cy mi) {i : Jvm.ClassFile.Instr} {pc len a pc' : Nat} {x : Int} {ls ls' : Ls} {st st' : List Vv} {M M' : Mm} (hd : decode (cM mi) pc = .ok (i, len)) (hn : lenI i = 0 ∨ lenI i = len) (hok : okB (yM mi).cls pc (i, len, a, x) = true) (h : sem1 S mi i len a x pc ls st M = some (.inl (pc', ls', st', M'))) {lsC : Array Slot} (hL : LR ad (lM mi) ls lsC) (hP : va_P D vwCl (wsW cy ad M) H) (hS0 : va_S A H0 H locs) (hst : ∀ v ∈ st, okV v) (hA : ApD A ad) (hSc : scOK S ad A s H0) (hRm : 1 ≤ R.frames ∧ 40 ≤ R.locals ∧ cells ≤ R.cells ∧ slots ≤ R.slots)
    (kk : ∀ (H1 : Heap) (locs1 : List Loc) (lsC1 : Array Slot), LR ad (lM mi) ls' lsC1 → va_P D vwCl (wsW cy ad M') H1 → va_S A H0 H1 locs1 → W p l e R s m args below meth c H1 locs1 cells slots Q (F0 m pc' lsC1 (st'.map (conc ad)))) : W p l e R s m args below meth c H locs cells slots Q (F0 m pc lsC (st.map (conc ad))) := by
  cases i with
  | aload_n k => exact st_aload_n F (lnn_of hd hn rfl (by decide)) h hL hP hS0 kk
  | aload k => exact st_aload F (lnn_of hd hn rfl (by decide)) h hL hP hS0 kk
  | iload_n k => exact st_iload_n F (lnn_of hd hn rfl (by decide)) h hL hP hS0 kk
  | iload k => exact st_iload F (lnn_of hd hn rfl (by decide)) h hL hP hS0 kk
  | lload_n k => exact st_lload_n F (lnn_of hd hn rfl (by decide)) h hL hP hS0 kk
  | lload k => exact st_lload F (lnn_of hd hn rfl (by decide)) h hL hP hS0 kk
  | istore_n k => exact st_istore_n F (lnn_of hd hn rfl (by decide)) h hL hP hS0 kk
  | istore k => exact st_istore F (lnn_of hd hn rfl (by decide)) h hL hP hS0 kk
  | lstore_n k => exact st_lstore_n F (lnn_of hd hn rfl (by decide)) h hL hP hS0 kk
  | lstore k => exact st_lstore F (lnn_of hd hn rfl (by decide)) h hL hP hS0 kk
  | astore_n k => exact st_astore_n F (lnn_of hd hn rfl (by decide)) h hL hP hS0 kk
  | astore k => exact st_astore F (lnn_of hd hn rfl (by decide)) h hL hP hS0 kk
  | iconst n => exact st_iconst F (lnn_of hd hn rfl (by decide)) h hL hP hS0 kk
  | bipush n => exact st_bipush F (lnn_of hd hn rfl (by decide)) h hL hP hS0 hok kk
  | sipush n => exact st_sipush F (lnn_of hd hn rfl (by decide)) h hL hP hS0 hok kk
  | lconst n => exact st_lconst F (lnn_of hd hn rfl (by decide)) h hL hP hS0 kk
  | ldc u_ => exact st_ldc F (lnn_of hd hn rfl (by decide)) h hL hP hS0 hok kk
  | ldc_w u_ => exact st_ldc_w F (lnn_of hd hn rfl (by decide)) h hL hP hS0 hok kk
  | ldc2_w u_ => exact st_ldc2 F (lnn_of hd hn rfl (by decide)) h hL hP hS0 hok kk
  | iadd => exact st_iadd F (lnn_of hd hn rfl (by decide)) h hL hP hS0 kk
  | isub => exact st_isub F (lnn_of hd hn rfl (by decide)) h hL hP hS0 kk
  | imul => exact st_imul F (lnn_of hd hn rfl (by decide)) h hL hP hS0 kk
  | idiv => exact st_idiv F (lnn_of hd hn rfl (by decide)) h hL hP hS0 hst kk
  | irem => exact st_irem F (lnn_of hd hn rfl (by decide)) h hL hP hS0 hst kk
  | ineg => exact st_ineg F (lnn_of hd hn rfl (by decide)) h hL hP hS0 kk
  | pop => exact st_pop F (lnn_of hd hn rfl (by decide)) h hL hP hS0 kk
  | iand => exact st_iand F (lnn_of hd hn rfl (by decide)) h hL hP hS0 kk
  | ior => exact st_ior F (lnn_of hd hn rfl (by decide)) h hL hP hS0 kk
  | ixor => exact st_ixor F (lnn_of hd hn rfl (by decide)) h hL hP hS0 kk
  | ishl => exact st_ishl F (lnn_of hd hn rfl (by decide)) h hL hP hS0 kk
  | ishr => exact st_ishr F (lnn_of hd hn rfl (by decide)) h hL hP hS0 kk
  | iushr => exact st_iushr F (lnn_of hd hn rfl (by decide)) h hL hP hS0 kk
  | ladd => exact st_ladd F (lnn_of hd hn rfl (by decide)) h hL hP hS0 kk
  | lsub => exact st_lsub F (lnn_of hd hn rfl (by decide)) h hL hP hS0 kk
  | land => exact st_land F (lnn_of hd hn rfl (by decide)) h hL hP hS0 kk
  | lor => exact st_lor F (lnn_of hd hn rfl (by decide)) h hL hP hS0 kk
  | lxor => exact st_lxor F (lnn_of hd hn rfl (by decide)) h hL hP hS0 kk
  | lshl => exact st_lshl F (lnn_of hd hn rfl (by decide)) h hL hP hS0 kk
  | lshr => exact st_lshr F (lnn_of hd hn rfl (by decide)) h hL hP hS0 kk
  | lushr => exact st_lushr F (lnn_of hd hn rfl (by decide)) h hL hP hS0 kk
  | lneg => exact st_lneg F (lnn_of hd hn rfl (by decide)) h hL hP hS0 kk
  | lcmp => exact st_lcmp F (lnn_of hd hn rfl (by decide)) h hL hP hS0 kk
  | i2l => exact st_i2l F (lnn_of hd hn rfl (by decide)) h hL hP hS0 kk
  | l2i => exact st_l2i F (lnn_of hd hn rfl (by decide)) h hL hP hS0 kk
  | iinc k n => exact st_iinc F (lnn_of hd hn rfl (by decide)) h hL hP hS0 kk
  | dup => exact st_dup F (lnn_of hd hn rfl (by decide)) h hL hP hS0 kk
  | dup2 => exact st_dup2 F (lnn_of hd hn rfl (by decide)) h hL hP hS0 kk
  | goto u_ => exact st_goto F (lnn_of hd hn rfl (by decide)) h hL hP hS0 hok kk
  | ifCond c off => 
    cases c with
    | eq => exact st_if_eq F (lnn_of hd hn rfl (by decide)) h hL hP hS0 hst hok kk
    | ne => exact st_if_ne F (lnn_of hd hn rfl (by decide)) h hL hP hS0 hst hok kk
    | lt => exact st_if_lt F (lnn_of hd hn rfl (by decide)) h hL hP hS0 hst hok kk
    | ge => exact st_if_ge F (lnn_of hd hn rfl (by decide)) h hL hP hS0 hst hok kk
    | gt => exact st_if_gt F (lnn_of hd hn rfl (by decide)) h hL hP hS0 hst hok kk
    | le => exact st_if_le F (lnn_of hd hn rfl (by decide)) h hL hP hS0 hst hok kk
  | if_icmp c off => 
    cases c with
    | eq => exact st_icmp_eq F (lnn_of hd hn rfl (by decide)) h hL hP hS0 hst hok kk
    | ne => exact st_icmp_ne F (lnn_of hd hn rfl (by decide)) h hL hP hS0 hst hok kk
    | lt => exact st_icmp_lt F (lnn_of hd hn rfl (by decide)) h hL hP hS0 hst hok kk
    | ge => exact st_icmp_ge F (lnn_of hd hn rfl (by decide)) h hL hP hS0 hst hok kk
    | gt => exact st_icmp_gt F (lnn_of hd hn rfl (by decide)) h hL hP hS0 hst hok kk
    | le => exact st_icmp_le F (lnn_of hd hn rfl (by decide)) h hL hP hS0 hst hok kk
  | ifnull u_ => exact st_ifnull F (lnn_of hd hn rfl (by decide)) h hL hP hS0 kk
  | tableswitch dflt lo hi offs => exact st_table F hd h hL hP hS0 hst hok kk
  | lookupswitch dflt ps => exact st_lookup F hd h hL hP hS0 hst hok kk
  | getfield u_ => exact st_getfield F (lnn_of hd hn rfl (by decide)) h hL hP hS0 hst hok kk
  | putfield u_ => exact st_putfield F (lnn_of hd hn rfl (by decide)) h hL hP hS0 hst hA hok kk
  | iaload => exact st_iaload F (lnn_of hd hn rfl (by decide)) h hL hP hS0 hst hSc kk
  | baload => exact st_baload F (lnn_of hd hn rfl (by decide)) h hL hP hS0 hst kk
  | laload => exact st_laload F (lnn_of hd hn rfl (by decide)) h hL hP hS0 hst kk
  | aaload => exact st_aaload F (lnn_of hd hn rfl (by decide)) h hL hP hS0 hst kk
  | iastore => exact st_iastore F (lnn_of hd hn rfl (by decide)) h hL hP hS0 hst hA kk
  | bastore => exact st_bastore F (lnn_of hd hn rfl (by decide)) h hL hP hS0 hst hA kk
  | lastore => exact st_lastore F (lnn_of hd hn rfl (by decide)) h hL hP hS0 hst hA kk
  | arraylength => exact st_alen F (lnn_of hd hn rfl (by decide)) h hL hP hS0 hst hSc kk
  | invokevirtual u_ => obtain ⟨_, _, _, _, e, _⟩ := virt_is h; cases e
  | invokestatic u_ => 
    cases ha : isMM a with
    | false => obtain ⟨_, _, e, _⟩ := stat_is ha h; cases e
    | true =>
      unfold isMM at ha
      rw [Bool.or_eq_true, Bool.or_eq_true] at ha
      rcases ha with (g | g) | g
      · exact st_mmax F (lnn_of hd hn rfl (by decide)) h hL hP hS0 hst hRm (Nat.eq_of_beq_eq_true g) hok kk
      · exact st_mmin F (lnn_of hd hn rfl (by decide)) h hL hP hS0 hst hRm (Nat.eq_of_beq_eq_true g) hok kk
      · exact st_mabs F (lnn_of hd hn rfl (by decide)) h hL hP hS0 hst hRm (Nat.eq_of_beq_eq_true g) hok kk
  | ireturn => 
    exfalso
    replace h : (match st with
        | [.inl v] => if rkM mi = 1 then doneS (.inl (some (.inl v))) else if rkM mi = 2 then (if v = 0 ∨ v = 1 then doneS (.inl (some (.inl v))) else none) else none
        | _ => none) = some (.inl (pc', ls', st', M')) := h
    unfold doneS at h
    repeat' (split at h)
    all_goals (cases h)
  | lreturn => 
    exfalso
    replace h : (match st with
        | [.inr (.inl v)] => if rkM mi = 3 then doneS (.inl (some (.inr (.inl v)))) else none
        | _ => none) = some (.inl (pc', ls', st', M')) := h
    unfold doneS at h
    repeat' (split at h)
    all_goals (cases h)
  | areturn => 
    exfalso
    replace h : (match st with
        | [.inr (.inr v)] => if rkM mi = 4 then doneS (.inl (some (.inr (.inr v)))) else none
        | _ => none) = some (.inl (pc', ls', st', M')) := h
    unfold doneS at h
    repeat' (split at h)
    all_goals (cases h)
  | return_ => 
    exfalso
    replace h : (match st with
        | [] => if rkM mi = 0 then doneS (.inl none) else none
        | _ => none) = some (.inl (pc', ls', st', M')) := h
    unfold doneS at h
    repeat' (split at h)
    all_goals (cases h)
  | new u_ => 
    exfalso
    replace h : (if kdM mi = 1 then (match st with
        | [] => doneS (.inr a)
        | _ => none) else none) = some (.inl (pc', ls', st', M')) := h
    unfold doneS at h
    repeat' (split at h)
    all_goals (cases h)
  | _ => cases h
end ST3

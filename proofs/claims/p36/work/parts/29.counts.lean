/-! counts of bits -/
def cntB (b : Nat → Bool) : Nat → Nat
  | 0 => 0
  | n + 1 => cntB b n + (bif b n then 1 else 0)
theorem cntB_congr {b c : Nat → Bool} : ∀ {n : Nat}, (∀ x, x < n → b x = c x) → cntB b n = cntB c n
  | 0, _ => rfl
  | n + 1, h => by
    show cntB b n + _ = cntB c n + _
    rw [cntB_congr (fun x hx => h x (by omega)), h n (by omega)]
theorem cntB_add (b : Nat → Bool) (n : Nat) : ∀ m, cntB b (n + m) = cntB b n + cntB (fun x => b (n + x)) m
  | 0 => rfl
  | m + 1 => by
    show cntB b (n + m) + _ = cntB b n + (cntB (fun x => b (n + x)) m + _)
    rw [cntB_add b n m, Nat.add_assoc]
    rfl
theorem cntB_le (b : Nat → Bool) : ∀ n, cntB b n ≤ n
  | 0 => Nat.le_refl _
  | n + 1 => by
    show cntB b n + _ ≤ n + 1
    have := cntB_le b n
    cases b n <;> simp <;> omega
theorem cntB_zero {b : Nat → Bool} {n : Nat} (h : ∀ x, x < n → b x = false) : cntB b n = 0 := by
  rw [cntB_congr (c := fun _ => false) h]
  clear h
  induction n with
  | zero => rfl
  | succ n ih => exact ih
theorem cntB_ext {b : Nat → Bool} {n m : Nat} (h : ∀ x, n ≤ x → b x = false) (hm : n ≤ m) : cntB b m = cntB b n := by
  obtain ⟨k, rfl⟩ := Nat.exists_eq_add_of_le hm
  rw [cntB_add, cntB_zero (b := fun x => b (n + x)) (fun x _ => h _ (by omega))]
  rfl
/-- of an int with 12 bits -/
def bc1 (v : Int) : Int := v - ian (ius v 1) 1431655765
def bc2 (v : Int) : Int := ian v 858993459 + ian (ius v 2) 858993459
def bc3 (v : Int) : Int := ian (v + ius v 4) 252645135
def bc4 (v : Int) : Int := v + ius v 8
def bc5 (v : Int) : Int := v + ius v 16
def inRb (x : Int) : Bool := decide (-2147483648 ≤ x ∧ x ≤ 2147483647)
theorem inRb_p {x : Int} (h : inRb x = true) : inR x := by
  unfold inRb at h
  unfold inR
  exact of_decide_eq_true h
def bcC (v : Int) : Prop := inR (bc1 v) ∧ inR (bc2 (bc1 v)) ∧ inR (bc2 (bc1 v) + ius (bc2 (bc1 v)) 4) ∧ inR (bc4 (bc3 (bc2 (bc1 v)))) ∧ inR (bc5 (bc4 (bc3 (bc2 (bc1 v))))) ∧ ian (bc5 (bc4 (bc3 (bc2 (bc1 v))))) 63 = (cntB (bZ v) 12 : Int)
def bcD (v : Int) : Bool := inRb (bc1 v) && (inRb (bc2 (bc1 v)) && (inRb (bc2 (bc1 v) + ius (bc2 (bc1 v)) 4) && (inRb (bc4 (bc3 (bc2 (bc1 v)))) && (inRb (bc5 (bc4 (bc3 (bc2 (bc1 v))))) && decide (ian (bc5 (bc4 (bc3 (bc2 (bc1 v))))) 63 = (cntB (bZ v) 12 : Int))))))
theorem bcD_p {v : Int} (h : bcD v = true) : bcC v := by
  unfold bcD at h
  obtain ⟨h1, h⟩ := Bool.and_eq_true_iff.mp h
  obtain ⟨h2, h⟩ := Bool.and_eq_true_iff.mp h
  obtain ⟨h3, h⟩ := Bool.and_eq_true_iff.mp h
  obtain ⟨h4, h⟩ := Bool.and_eq_true_iff.mp h
  obtain ⟨h5, h⟩ := Bool.and_eq_true_iff.mp h
  exact ⟨inRb_p h1, inRb_p h2, inRb_p h3, inRb_p h4, inRb_p h5, of_decide_eq_true h⟩
set_option maxRecDepth 100000 in
theorem bc_b : ((List.range 4096).all fun k => bcD (k : Int)) = true := by decide +kernel
theorem bc_all {v : Int} (h0 : 0 ≤ v) (h1 : v < 4096) : bcC v := by
  have e : v = (v.toNat : Int) := (Int.toNat_of_nonneg h0).symm
  rw [e]
  exact bcD_p (List.all_eq_true.mp bc_b v.toNat (List.mem_range.mpr (by omega)))
theorem e1100 {v : Int} {M : Mm} (h0 : 0 ≤ v) (h1 : v < 4096) : Ev 0 1100 [.inl v] M (fun w M' => M' = M ∧ w = some (.inl (cntB (bZ v) 12 : Int))) := by
  obtain ⟨c1, c2, c3, c4, c5, c6⟩ := bc_all h0 h1
  show Wp 0 1100 0 [some (.inl v)] [] M _
  refine Wp.path (k := 8) [] (C := [inR (bc1 v)]) (pc' := 10) (ls' := [some (.inl (bc1 v))]) (st' := []) (M' := M) rfl c1 ?_
  revert c2 c3 c4 c5 c6
  generalize bc1 v = v1
  intro c2 c3 c4 c5 c6
  refine Wp.path (k := 10) [] (C := [inR (bc2 v1)]) (pc' := 24) (ls' := [some (.inl (bc2 v1))]) (st' := []) (M' := M) rfl c2 ?_
  revert c3 c4 c5 c6
  generalize bc2 v1 = v2
  intro c3 c4 c5 c6
  refine Wp.path (k := 8) [] (C := [inR (v2 + ius v2 4)]) (pc' := 34) (ls' := [some (.inl (bc3 v2))]) (st' := []) (M' := M) rfl c3 ?_
  revert c4 c5 c6
  generalize bc3 v2 = v3
  intro c4 c5 c6
  refine Wp.path (k := 6) [] (C := [inR (bc4 v3)]) (pc' := 41) (ls' := [some (.inl (bc4 v3))]) (st' := []) (M' := M) rfl c4 ?_
  revert c5 c6
  generalize bc4 v3 = v4
  intro c5 c6
  refine Wp.path (k := 6) [] (C := [inR (bc5 v4)]) (pc' := 48) (ls' := [some (.inl (bc5 v4))]) (st' := []) (M' := M) rfl c5 ?_
  revert c6
  generalize bc5 v4 = v5
  intro c6
  refine Wp.path (k := 3) [] (C := []) (pc' := 52) (ls' := [some (.inl v5)]) (st' := [.inl (ian v5 63)]) (M' := M) rfl trivial ?_
  exact Wp.ret rfl ⟨rfl, by rw [c6]⟩

/-! the law's own code, in pieces -/
def meR (mi : Nat) (l : List (Nat × AI)) : Bool := l.all (fun q => decide (decode (cM mi) q.1 = .ok (q.2.1, q.2.2.1)) && (Nat.beq (lenI q.2.1) 0 || Nat.beq (lenI q.2.1) q.2.2.1) && okB (yM mi).cls q.1 q.2)
set_option maxRecDepth 1000000 in
theorem mr_0 : ((List.range 4).all fun i => meR 1222 ((nthL (cod 1222) (4 * 0 + i)).getD [])) = true := by decide +kernel
set_option maxRecDepth 1000000 in
theorem mr_1 : ((List.range 4).all fun i => meR 1222 ((nthL (cod 1222) (4 * 1 + i)).getD [])) = true := by decide +kernel
set_option maxRecDepth 1000000 in
theorem mr_2 : ((List.range 4).all fun i => meR 1222 ((nthL (cod 1222) (4 * 2 + i)).getD [])) = true := by decide +kernel
set_option maxRecDepth 1000000 in
theorem mr_3 : ((List.range 4).all fun i => meR 1222 ((nthL (cod 1222) (4 * 3 + i)).getD [])) = true := by decide +kernel
set_option maxRecDepth 1000000 in
theorem mr_4 : ((List.range 4).all fun i => meR 1222 ((nthL (cod 1222) (4 * 4 + i)).getD [])) = true := by decide +kernel
set_option maxRecDepth 1000000 in
theorem mr_5 : ((List.range 4).all fun i => meR 1222 ((nthL (cod 1222) (4 * 5 + i)).getD [])) = true := by decide +kernel
set_option maxRecDepth 1000000 in
theorem mr_6 : ((List.range 4).all fun i => meR 1222 ((nthL (cod 1222) (4 * 6 + i)).getD [])) = true := by decide +kernel
set_option maxRecDepth 1000000 in
theorem mr_7 : ((List.range 4).all fun i => meR 1222 ((nthL (cod 1222) (4 * 7 + i)).getD [])) = true := by decide +kernel
set_option maxRecDepth 1000000 in
theorem mr_8 : ((List.range 4).all fun i => meR 1222 ((nthL (cod 1222) (4 * 8 + i)).getD [])) = true := by decide +kernel
set_option maxRecDepth 1000000 in
theorem mr_9 : ((List.range 4).all fun i => meR 1222 ((nthL (cod 1222) (4 * 9 + i)).getD [])) = true := by decide +kernel
set_option maxRecDepth 1000000 in
theorem mr_10 : ((List.range 4).all fun i => meR 1222 ((nthL (cod 1222) (4 * 10 + i)).getD [])) = true := by decide +kernel
set_option maxRecDepth 1000000 in
theorem mr_11 : ((List.range 4).all fun i => meR 1222 ((nthL (cod 1222) (4 * 11 + i)).getD [])) = true := by decide +kernel
set_option maxRecDepth 1000000 in
theorem mr_12 : ((List.range 4).all fun i => meR 1222 ((nthL (cod 1222) (4 * 12 + i)).getD [])) = true := by decide +kernel
set_option maxRecDepth 1000000 in
theorem mr_13 : ((List.range 4).all fun i => meR 1222 ((nthL (cod 1222) (4 * 13 + i)).getD [])) = true := by decide +kernel
set_option maxRecDepth 1000000 in
theorem mr_14 : ((List.range 4).all fun i => meR 1222 ((nthL (cod 1222) (4 * 14 + i)).getD [])) = true := by decide +kernel
theorem mr_all : ∀ k, k < 15 → ((List.range 4).all fun i => meR 1222 ((nthL (cod 1222) (4 * k + i)).getD [])) = true := by
  intro k hk
  have h : k = 0 ∨ k = 1 ∨ k = 2 ∨ k = 3 ∨ k = 4 ∨ k = 5 ∨ k = 6 ∨ k = 7 ∨ k = 8 ∨ k = 9 ∨ k = 10 ∨ k = 11 ∨ k = 12 ∨ k = 13 ∨ k = 14 := by omega
  rcases h with rfl | rfl | rfl | rfl | rfl | rfl | rfl | rfl | rfl | rfl | rfl | rfl | rfl | rfl | rfl
  · exact mr_0
  · exact mr_1
  · exact mr_2
  · exact mr_3
  · exact mr_4
  · exact mr_5
  · exact mr_6
  · exact mr_7
  · exact mr_8
  · exact mr_9
  · exact mr_10
  · exact mr_11
  · exact mr_12
  · exact mr_13
  · exact mr_14
set_option maxRecDepth 100000 in
theorem K_len : (cod 1222).length ≤ 60 := by decide +kernel
theorem me_1222 : meB 1222 = true := by
  refine List.all_eq_true.mpr fun q hq => ?_
  obtain ⟨l, hl, hql⟩ := List.mem_flatten.mp hq
  obtain ⟨j, hj⟩ := List.getElem?_of_mem hl
  have hj2 := (List.getElem?_eq_some_iff.mp hj).1
  have hlt : j < 60 := Nat.lt_of_lt_of_le hj2 K_len
  have h1 := mr_all (j / 4) (by omega)
  have h2 := List.all_eq_true.mp h1 (j % 4) (List.mem_range.mpr (Nat.mod_lt _ (by omega)))
  rw [Nat.div_add_mod, nthL_eq, hj] at h2
  exact List.all_eq_true.mp h2 q hql

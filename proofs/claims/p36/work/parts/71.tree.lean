/-! the tree of components as branches, in preorder -/
abbrev Rc : Type := Nat × Nat × Nat × Nat × Int
/-- the branches of the children, the first at place i -/
def kdA (T : Nat → Nat → List Rc) (p : Nat → Bool) (i : Nat) : Nat → List Rc
  | 0 => []
  | c + 1 => if p c = true then kdA T p i c ++ T c (i + (kdA T p i c).length) else kdA T p i c
theorem kdA_y {T : Nat → Nat → List Rc} {p : Nat → Bool} {i c : Nat} (h : p c = true) : kdA T p i (c + 1) = kdA T p i c ++ T c (i + (kdA T p i c).length) := if_pos h
theorem kdA_n {T : Nat → Nat → List Rc} {p : Nat → Bool} {i c : Nat} (h : p c = false) : kdA T p i (c + 1) = kdA T p i c := if_neg (by rw [h]; decide)
theorem kdA_le {T : Nat → Nat → List Rc} {p : Nat → Bool} {i : Nat} (hT : ∀ c j, 0 < (T c j).length) : ∀ {c d : Nat}, c ≤ d → (kdA T p i c).length + cntB p d ≤ (kdA T p i d).length + cntB p c := by
  intro c d h
  induction d with
  | zero => rw [show c = 0 by omega]; exact Nat.le_refl _
  | succ d ih =>
    by_cases e : c = d + 1
    · rw [e]; exact Nat.le_refl _
    · have ih := ih (by omega)
      cases hp : p d with
      | true =>
        rw [kdA_y hp, cntB_y hp, List.length_append]
        have := hT d (i + (kdA T p i d).length)
        omega
      | false => rw [kdA_n hp, cntB_n hp]; exact ih
section Tree
variable (cnt : Nat → Nat) (pr : Nat → Nat → Int)
/-- is c of the next phase a child of b -/
def isK (k b c : Nat) : Bool := decide (pr (k + 1) c = b)
def kdn (k b : Nat) : Nat := cntB (isK pr k b) (cnt (k + 1))
def fch (k b : Nat) : Nat := (fsE (isK pr k b) (cnt (k + 1))).toNat
/-- where a branch ends -/
def enF : Nat → Nat → Nat → Nat × Nat
  | 0, k, b => (k, b)
  | F + 1, k, b => if kdn cnt pr k b = 1 then enF F (k + 1) (fch cnt pr k b) else (k, b)
def trL : Nat → Nat → Nat → Int → Nat → List Rc
  | 0, _, _, _, _ => []
  | F + 1, k, b, p, i => (k, b, (enF cnt pr 12 k b).1, (enF cnt pr 12 k b).2, p) :: kdA (fun c j => trL F ((enF cnt pr 12 k b).1 + 1) c (i : Int) j) (isK pr (enF cnt pr 12 k b).1 (enF cnt pr 12 k b).2) (i + 1) (cnt ((enF cnt pr 12 k b).1 + 1))
theorem trL_pos {F k b i : Nat} {p : Int} : 0 < (trL cnt pr (F + 1) k b p i).length := Nat.succ_pos _
/-- a branch ends at its first component that has not one child -/
theorem enF_s {F k b : Nat} (h : kdn cnt pr k b = 1) : enF cnt pr (F + 1) k b = enF cnt pr F (k + 1) (fch cnt pr k b) := if_pos h
theorem enF_e {k b : Nat} (h : kdn cnt pr k b ≠ 1) : ∀ F, enF cnt pr F k b = (k, b)
  | 0 => rfl
  | _ + 1 => if_neg h
end Tree
/-! the class's stack -/
def TSt (t j : Nat) : Prop := (t = 7 ∨ t = 806 ∨ t = 807 ∨ t = 808) ∧ j = 0
theorem c702 {o m n : Nat} {kv bv iv : Int} {pr : Nat → Int} {M : Mm} {Q : Mm → Prop} (h10 : M.1 3 o 10 = n) (hn : n ≤ 72) (h407 : ∀ c, c < n → M.1 407 o c = pr c) (h9 : M.1 7 0 9 = m) (hm : m + cntB (fun c => decide (pr c = bv)) n ≤ 864)
    (hQ : ∀ M', Fx TSt M M' → M'.1 7 0 9 = (m + cntB (fun c => decide (pr c = bv)) n : Nat) → (∀ q, q ≠ 9 → M'.1 7 0 q = M.1 7 0 q) → (∀ q, q < m → M'.1 806 0 q = M.1 806 0 q ∧ M'.1 807 0 q = M.1 807 0 q ∧ M'.1 808 0 q = M.1 808 0 q) → (∀ c, c < n → pr c = bv → M'.1 806 0 (m + (cntB (fun c => decide (pr c = bv)) n - 1 - cntB (fun c => decide (pr c = bv)) c)) = kv ∧ M'.1 807 0 (m + (cntB (fun c => decide (pr c = bv)) n - 1 - cntB (fun c => decide (pr c = bv)) c)) = c ∧ M'.1 808 0 (m + (cntB (fun c => decide (pr c = bv)) n - 1 - cntB (fun c => decide (pr c = bv)) c)) = iv) → Q M') : E_702 o kv bv iv M Q := by
  refine s_702_0 ?_
  rw [h10]
  refine ⟨by omega, fun x5 e5 => ?_⟩
  generalize hp : (fun c => decide (pr c = bv)) = p at *
  have hpc : ∀ c, p c = decide (pr c = bv) := fun c => by rw [← hp]
  have key : ∀ (x : Nat) (M' : Mm), x ≤ n → Fx TSt M M' → M'.1 7 0 9 = (m + (cntB p n - cntB p x) : Nat) → (∀ q, q ≠ 9 → M'.1 7 0 q = M.1 7 0 q) → (∀ q, q < m → M'.1 806 0 q = M.1 806 0 q ∧ M'.1 807 0 q = M.1 807 0 q ∧ M'.1 808 0 q = M.1 808 0 q) → (∀ c, x ≤ c → c < n → pr c = bv → M'.1 806 0 (m + (cntB p n - 1 - cntB p c)) = kv ∧ M'.1 807 0 (m + (cntB p n - 1 - cntB p c)) = c ∧ M'.1 808 0 (m + (cntB p n - 1 - cntB p c)) = iv) → L_702_8 o kv bv iv ((x : Int) - 1) M' Q := by
    intro x
    induction x with
    | zero =>
      intro M' hx hf h1 h2 h3 h4
      refine s_702_8 ⟨fun _ => hQ M' hf ?_ h2 h3 fun c hc hb => h4 c (by omega) hc hb, fun h => by omega⟩
      rw [h1]; rfl
    | succ x ih =>
      intro M' hx hf h1 h2 h3 h4
      have ex1 : ((x + 1 : Nat) : Int) - 1 = x := by omega
      rw [ex1]
      have g10 : M'.1 3 o 10 = n := by rw [(hf 3 o (by unfold TSt; omega)).1]; exact h10
      have g407 : M'.1 407 o x = pr x := by rw [(hf 407 o (by unfold TSt; omega)).1]; exact h407 x (by omega)
      have epar : parV (M'.1 3 o 10) (M'.1 407 o) (x : Int) = pr x := by
        unfold parV
        rw [g10]
        rw [if_pos ⟨by omega, by omega⟩, atN_i (by omega) (by omega), Int.toNat_natCast]; exact g407
      have hcm : cntB p x ≤ cntB p (x + 1) := cntB_mono (Nat.le_succ x)
      have hcm2 : cntB p (x + 1) ≤ cntB p n := cntB_mono hx
      refine s_702_8 ?_
      rw [epar]
      refine ⟨fun h => by omega, fun _ => ⟨fun hne => ⟨by omega, ?_⟩, fun heq M1 e1 M2 e2 M3 e3 => ?_⟩⟩
      · have hpx : p x = false := by rw [hpc]; exact decide_eq_false hne
        rw [show (x : Int) + (-1) = (x : Int) - 1 by omega]
        refine ih M' (by omega) hf (by rw [← cntB_n hpx]; exact h1) h2 h3 fun c hc1 hc2 hb => ?_
        by_cases k : c = x
        · rw [k] at hb; exact absurd hb hne
        · exact h4 c (by omega) hc2 hb
      · have hpx : p x = true := by rw [hpc]; exact decide_eq_true heq
        have hy := cntB_y hpx
        have q9 : M3.1 7 0 = M'.1 7 0 := by rw [e3, setA_ne (by omega), e2, setA_ne (by omega), e1, setA_ne (by omega)]
        have q9b : M2.1 7 0 = M'.1 7 0 := by rw [e2, setA_ne (by omega), e1, setA_ne (by omega)]
        have q9c : M1.1 7 0 = M'.1 7 0 := by rw [e1, setA_ne (by omega)]
        have r6 : M3.1 806 0 = putN 864 (M'.1 806 0) (M'.1 7 0 9) kv := by rw [e3, setA_ne (by omega), e2, setA_ne (by omega), e1, setA_at]
        have r7 : M3.1 807 0 = putN 864 (M'.1 807 0) (M'.1 7 0 9) (x : Int) := by rw [e3, setA_ne (by omega), e2, setA_at, e1, setA_ne (by omega), setA_ne (by omega)]
        have r8 : M3.1 808 0 = putN 864 (M'.1 808 0) (M'.1 7 0 9) iv := by rw [e3, setA_at, q9b, e2, setA_ne (by omega), e1, setA_ne (by omega)]
        rw [q9, h1]
        refine ⟨by omega, fun M4 e4 => ⟨by omega, ?_⟩⟩
        have s9 : M4.1 7 0 = ups (M'.1 7 0) 9 (((m + (cntB p n - cntB p (x + 1)) : Nat) : Int) + 1) := by rw [e4, setI_at, q9]
        have s6 : M4.1 806 0 = M3.1 806 0 := by rw [e4, setI_ne (by omega)]
        have s7 : M4.1 807 0 = M3.1 807 0 := by rw [e4, setI_ne (by omega)]
        have s8 : M4.1 808 0 = M3.1 808 0 := by rw [e4, setI_ne (by omega)]
        rw [show (x : Int) + (-1) = (x : Int) - 1 by omega]
        refine ih M4 (by omega) (hf.tr ?_) ?_ (fun q hq => ?_) (fun q hq => ?_) fun c hc1 hc2 hb => ?_
        · rw [e4, e3, e2, e1]
          exact (((Fx.setA ⟨by omega, rfl⟩).tr (Fx.setA ⟨by omega, rfl⟩)).tr (Fx.setA ⟨by omega, rfl⟩)).tr (Fx.setI ⟨by omega, rfl⟩)
        · rw [s9, ups_at]; omega
        · rw [s9, ups_ne hq]; exact h2 q hq
        · rw [s6, s7, s8, r6, r7, r8, h1, putN_ne (by omega), putN_ne (by omega), putN_ne (by omega)]
          exact h3 q hq
        · rw [s6, s7, s8, r6, r7, r8, h1]
          by_cases k : c = x
          · rw [k, putN_at (by omega) (by omega), putN_at (by omega) (by omega), putN_at (by omega) (by omega)]
            exact ⟨rfl, rfl, rfl⟩
          · have hcc : cntB p (x + 1) ≤ cntB p c := cntB_mono (show x + 1 ≤ c by omega)
            have hpcc : p c = true := by rw [hpc]; exact decide_eq_true hb
            have hc3 : cntB p (c + 1) ≤ cntB p n := cntB_mono hc2
            rw [cntB_y hpcc] at hc3
            rw [putN_ne (by omega), putN_ne (by omega), putN_ne (by omega)]
            exact h4 c (by omega) hc2 hb
  rw [e5]
  exact key n M (Nat.le_refl n) Fx.rf (by rw [h9, Nat.sub_self]; rfl) (fun _ _ => rfl) (fun _ _ => ⟨rfl, rfl, rfl⟩) fun c h1 h2 => by omega

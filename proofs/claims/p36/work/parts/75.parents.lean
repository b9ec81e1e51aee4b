/-! a branch's parent comes before it -/
theorem kdA_pa {T : Nat → Nat → List Rc} {p : Nat → Bool} {i0 : Nat} {q : Int} (hT : ∀ (c j t : Nat) (r : Rc), (T c j)[t]? = some r → (t = 0 ∧ r.2.2.2.2 = q) ∨ (0 < t ∧ (j : Int) ≤ r.2.2.2.2 ∧ r.2.2.2.2 < (j : Int) + t)) : ∀ (c t : Nat) (r : Rc), (kdA T p i0 c)[t]? = some r → r.2.2.2.2 = q ∨ ((i0 : Int) ≤ r.2.2.2.2 ∧ r.2.2.2.2 < (i0 : Int) + t) := by
  intro c
  induction c with
  | zero => intro t r h; cases h
  | succ c ih =>
    intro t r h
    cases hp : p c with
    | false => rw [kdA_n hp] at h; exact ih t r h
    | true =>
      rw [kdA_y hp] at h
      rcases Nat.lt_or_ge t (kdA T p i0 c).length with k | k
      · rw [List.getElem?_append_left k] at h
        exact ih t r h
      · rw [List.getElem?_append_right k] at h
        rcases hT _ _ _ _ h with ⟨-, h2⟩ | ⟨h1, h2, h3⟩
        · exact Or.inl h2
        · exact Or.inr ⟨by omega, by omega⟩
theorem trL_pa {cnt : Nat → Nat} {pr : Nat → Nat → Int} : ∀ (F k b : Nat) (p : Int) (i t : Nat) (r : Rc), (trL cnt pr F k b p i)[t]? = some r → (t = 0 ∧ r.2.2.2.2 = p) ∨ (0 < t ∧ (i : Int) ≤ r.2.2.2.2 ∧ r.2.2.2.2 < (i : Int) + t)
  | 0, _, _, _, _, _, _, h => by cases h
  | F + 1, k, b, p, i, t, r, h => by
    have e : trL cnt pr (F + 1) k b p i = (k, b, (enF cnt pr 12 k b).1, (enF cnt pr 12 k b).2, p) :: kdA (fun c j => trL cnt pr F ((enF cnt pr 12 k b).1 + 1) c (i : Int) j) (isK pr (enF cnt pr 12 k b).1 (enF cnt pr 12 k b).2) (i + 1) (cnt ((enF cnt pr 12 k b).1 + 1)) := rfl
    rw [e] at h
    cases t with
    | zero =>
      rw [List.getElem?_cons_zero] at h
      cases h
      exact Or.inl ⟨rfl, rfl⟩
    | succ t =>
      rw [List.getElem?_cons_succ] at h
      have := kdA_pa (q := (i : Int)) (fun c j t r h => trL_pa F ((enF cnt pr 12 k b).1 + 1) c (i : Int) j t r h) _ t r h
      refine Or.inr ⟨Nat.succ_pos t, ?_, ?_⟩
      · omega
      · omega
theorem roots_pa {cnt : Nat → Nat} {pr : Nat → Nat → Int} {t : Nat} {r : Rc} (h : (roots cnt pr)[t]? = some r) : -1 ≤ r.2.2.2.2 ∧ r.2.2.2.2 < t := by
  have := kdA_pa (q := -1) (fun c j t r h => trL_pa 13 0 c (-1) j t r h) _ t r h
  omega
def paL (l : List Rc) (i : Nat) : Int := match l[i]? with
  | some r => r.2.2.2.2
  | none => -1
theorem paL_at {l : List Rc} {i : Nat} {r : Rc} (h : l[i]? = some r) : paL l i = r.2.2.2.2 := by unfold paL; rw [h]
def T701 (t j : Nat) : Prop := TGr t j ∨ TWy t j
theorem c701 {N : Nat} {cnt : Nat → Nat} {pr : Nat → Nat → Int} {M : Mm} {Q : Mm → Prop} (hT : CTr M N cnt pr) (hlen : (roots cnt pr).length ≤ 864)
    (hQ : ∀ M', Fx T701 M M' → M'.1 7 0 10 = (roots cnt pr).length → RecL M' cnt pr 0 (roots cnt pr) → Wys (roots cnt pr).length (paL (roots cnt pr)) (M'.1 805 0) → Q M') : E_701 M Q := by
  refine c701g hT hlen fun M1 f1 h10 hR => c704 h10 hlen (fun j hj => ?_) fun M2 f2 hw => hQ M2 ((f1.up fun t j h => Or.inl h).tr (f2.up fun t j h => Or.inr h)) ?_ ?_ hw
  · obtain ⟨r, hr⟩ : ∃ r, (roots cnt pr)[j]? = some r := ⟨_, List.getElem?_eq_getElem hj⟩
    have h1 := (hR j r hr).2.2.2.1
    rw [Nat.zero_add] at h1
    rw [paL_at hr]
    have := roots_pa hr
    exact ⟨h1, this⟩
  · rw [(f2 7 0 (by unfold TWy; omega)).1]; exact h10
  · exact hR.fx (n := (roots cnt pr).length) (by omega) fun q _ t t1 t2 => by rw [(f2 t 0 (by unfold TWy; omega)).1]

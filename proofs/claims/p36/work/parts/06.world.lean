/-! the world: the fixed layout as cells of the kit -/
abbrev Cy : Type := ClassId × ClassId × ClassId × ClassId
def okV : Vv → Prop
  | .inl x => inR x
  | .inr (.inl _) => True
  | .inr (.inr (t, i)) => (t, i) ∈ dom ∨ (t = 51 ∧ i = 0)
def okM (M : Mm) : Prop := ∀ t i k, inR (M.1 t i k)
def fvW (ad : Nat → Nat → Nat) (M : Mm) (t i k : Nat) : Value := match fK t k with
  | 0 => .int (Int32.ofInt (M.1 t i k))
  | 1 => .int (Int32.ofInt (M.1 t i k))
  | 2 => .ref (ad (100 * t + k + 100) i)
  | _ => .ref (ad (oF (100 * t + k) i).1 (oF (100 * t + k) i).2)
def eW (cy : Cy) (ad : Nat → Nat → Nat) (M : Mm) (t i : Nat) : va_E := if t < 10 then .inr (t, (List.range (nF t)).map (fvW ad M t i)) else match aK t with
  | 0 => .inl (cy.1, aL t, .inl (fun j => Int32.ofInt (M.1 t i j)))
  | 1 => .inl (cy.2.1, aL t, .inr (.inl (fun j => M.2 t i j)))
  | 2 => .inl (cy.2.2.1, aL t, .inl (fun j => Int32.ofInt (M.1 t i j)))
  | _ => .inl (cy.2.2.2, aL t, .inr (.inr (.inr (.inr (fun j => some (ad 3 j))))))
def wsW (cy : Cy) (ad : Nat → Nat → Nat) (M : Mm) : va_W := dom.map fun d => (ad d.1 d.2, eW cy ad M d.1 d.2)
def tysW (cy : Cy) : List (ClassId × FieldType) := [(cy.1, .int), (cy.2.1, .long), (cy.2.2.1, .byte), (cy.2.2.2, .object "RectilinearRoof$Phase")]
/-- the cells' addresses are apart, and free -/
def ApD (A : Nat → Prop) (ad : Nat → Nat → Nat) : Prop := (∀ d ∈ dom, ∀ d' ∈ dom, ad d.1 d.2 = ad d'.1 d'.2 → d = d') ∧ ∀ d ∈ dom, A (ad d.1 d.2)
def ndL {α : Type} [BEq α] : List α → Bool
  | [] => true
  | a :: l => !(l.contains a) && ndL l
theorem ndL_inj {α : Type} [BEq α] [LawfulBEq α] : ∀ {l : List α}, ndL l = true → ∀ {i j : Nat} {a : α}, l[i]? = some a → l[j]? = some a → i = j
  | [], _, i, j, a, h, _ => by simp at h
  | b :: l, hn, i, j, a, h1, h2 => by
    unfold ndL at hn
    rw [Bool.and_eq_true] at hn
    obtain ⟨n1, n2⟩ := hn
    have hb : b ∉ l := by
      intro hm
      rw [List.contains_iff_mem.mpr hm] at n1
      cases n1
    cases i with
    | zero =>
      cases j with
      | zero => rfl
      | succ j =>
        simp at h1 h2
        subst h1
        exact absurd (List.mem_of_getElem? h2) hb
    | succ i =>
      cases j with
      | zero =>
        simp at h1 h2
        subst h2
        exact absurd (List.mem_of_getElem? h1) hb
      | succ j =>
        simp at h1 h2
        rw [ndL_inj n2 h1 h2]
set_option maxRecDepth 100000 in
theorem dom_nd : ndL dom = true := by decide +kernel
theorem wsW_at {cy : Cy} {ad : Nat → Nat → Nat} {M : Mm} {t i : Nat} (h : (t, i) ∈ dom) : ∃ q0 : Nat, dom[q0]? = some (t, i) ∧ (wsW cy ad M)[q0]? = some (ad t i, eW cy ad M t i) := by
  obtain ⟨q0, hq⟩ := List.getElem?_of_mem h
  exact ⟨q0, hq, by unfold wsW; rw [List.getElem?_map, hq]; rfl⟩
theorem wsW_D {A : Nat → Prop} {cy : Cy} {ad : Nat → Nat → Nat} {M : Mm} (h : ApD A ad) : va_D A (wsW cy ad M) := by
  have key : ∀ (k : Nat) (q : Nat × va_E), (wsW cy ad M)[k]? = some q → ∃ d, dom[k]? = some d ∧ q.1 = ad d.1 d.2 := by
    intro k q hq
    unfold wsW at hq
    rw [List.getElem?_map] at hq
    cases hd : dom[k]? with
    | none => rw [hd] at hq; cases hq
    | some d => rw [hd] at hq; cases hq; exact ⟨d, rfl, rfl⟩
  refine ⟨fun i j p q hi hj hpq => ?_, fun k q hq => ?_⟩
  · obtain ⟨d, h1, h2⟩ := key i p hi
    obtain ⟨d', h3, h4⟩ := key j q hj
    have e := h.1 d (List.mem_of_getElem? h1) d' (List.mem_of_getElem? h3) (by rw [← h2, ← h4, hpq])
    subst e
    exact ndL_inj dom_nd h1 h3
  · obtain ⟨d, h1, h2⟩ := key k q hq
    rw [h2]
    exact h.2 d (List.mem_of_getElem? h1)
/-- one cell anew -/
theorem wsW_set {cy : Cy} {ad : Nat → Nat → Nat} {M M' : Mm} {t i q0 : Nat} {e : va_E} (hq : dom[q0]? = some (t, i)) (he : e = eW cy ad M' t i) (ho : ∀ t' i', (t', i') ≠ (t, i) → eW cy ad M t' i' = eW cy ad M' t' i') : (wsW cy ad M).set q0 (ad t i, e) = wsW cy ad M' := by
  apply List.ext_getElem?
  intro k
  unfold wsW
  by_cases hk : k = q0
  · subst hk
    have hl := (List.getElem?_eq_some_iff.mp hq).1
    rw [List.getElem?_set_self (by simpa using hl), List.getElem?_map, hq, he]
    rfl
  · rw [List.getElem?_set_ne (Ne.symm hk), List.getElem?_map, List.getElem?_map]
    cases hd : dom[k]? with
    | none => rfl
    | some d =>
      obtain ⟨t', i'⟩ := d
      simp only [Option.map_some]
      rw [ho t' i']
      intro h
      rw [h] at hd
      exact hk (ndL_inj dom_nd hd hq)
theorem setI_1 (M : Mm) (t i k : Nat) (v : Int) (t' i' k' : Nat) : (setI M t i k v).1 t' i' k' = if t' = t ∧ i' = i ∧ k' = k then v else M.1 t' i' k' := by
  unfold setI
  by_cases h1 : t' = t <;> by_cases h2 : i' = i <;> by_cases h3 : k' = k <;> simp [h1, h2, h3]
theorem setI_2 (M : Mm) (t i k : Nat) (v : Int) : (setI M t i k v).2 = M.2 := rfl
theorem setJ_1 (M : Mm) (t i k : Nat) (v : Int64) : (setJ M t i k v).1 = M.1 := rfl
theorem setJ_2 (M : Mm) (t i k : Nat) (v : Int64) (t' i' k' : Nat) : (setJ M t i k v).2 t' i' k' = if t' = t ∧ i' = i ∧ k' = k then v else M.2 t' i' k' := by
  unfold setJ
  by_cases h1 : t' = t <;> by_cases h2 : i' = i <;> by_cases h3 : k' = k <;> simp [h1, h2, h3]
theorem setI_ok {M : Mm} (h : okM M) {t i k : Nat} {v : Int} (hv : inR v) : okM (setI M t i k v) := by
  intro t' i' k'
  rw [setI_1]
  split
  · exact hv
  · exact h _ _ _
theorem eW_off {cy : Cy} {ad : Nat → Nat → Nat} {M M' : Mm} {t i : Nat} (h1 : ∀ k, M.1 t i k = M'.1 t i k) (h2 : ∀ k, M.2 t i k = M'.2 t i k) : eW cy ad M t i = eW cy ad M' t i := by
  have e1 : M.1 t i = M'.1 t i := funext h1
  have e2 : M.2 t i = M'.2 t i := funext h2
  have e3 : fvW ad M t i = fvW ad M' t i := by funext k; unfold fvW; rw [e1]
  unfold eW
  rw [e1, e2, e3]
theorem eW_setI {cy : Cy} {ad : Nat → Nat → Nat} {M : Mm} {t i k : Nat} {v : Int} : ∀ t' i', (t', i') ≠ (t, i) → eW cy ad M t' i' = eW cy ad (setI M t i k v) t' i' := by
  intro t' i' h
  refine eW_off (fun k' => ?_) (fun k' => rfl)
  rw [setI_1, if_neg]
  rintro ⟨h1, h2, -⟩
  exact h (by rw [h1, h2])
theorem eW_setJ {cy : Cy} {ad : Nat → Nat → Nat} {M : Mm} {t i k : Nat} {v : Int64} : ∀ t' i', (t', i') ≠ (t, i) → eW cy ad M t' i' = eW cy ad (setJ M t i k v) t' i' := by
  intro t' i' h
  refine eW_off (fun k' => rfl) (fun k' => ?_)
  rw [setJ_2, if_neg]
  rintro ⟨h1, h2, -⟩
  exact h (by rw [h1, h2])
theorem aK_lt {t : Nat} (h : aK t ≠ 9) : ¬ t < 10 := by
  intro ht
  apply h
  have : t = 0 ∨ t = 1 ∨ t = 2 ∨ t = 3 ∨ t = 4 ∨ t = 5 ∨ t = 6 ∨ t = 7 ∨ t = 8 ∨ t = 9 := by omega
  rcases this with rfl | rfl | rfl | rfl | rfl | rfl | rfl | rfl | rfl | rfl <;> rfl
theorem eW_0 {cy : Cy} {ad : Nat → Nat → Nat} {M : Mm} {t i : Nat} (h : aK t = 0) : eW cy ad M t i = .inl (cy.1, aL t, .inl (fun j => Int32.ofInt (M.1 t i j))) := by
  unfold eW
  rw [if_neg (aK_lt (by rw [h]; decide)), h]
  rfl
theorem eW_1 {cy : Cy} {ad : Nat → Nat → Nat} {M : Mm} {t i : Nat} (h : aK t = 1) : eW cy ad M t i = .inl (cy.2.1, aL t, .inr (.inl (fun j => M.2 t i j))) := by
  unfold eW
  rw [if_neg (aK_lt (by rw [h]; decide)), h]
  rfl
theorem eW_2 {cy : Cy} {ad : Nat → Nat → Nat} {M : Mm} {t i : Nat} (h : aK t = 2) : eW cy ad M t i = .inl (cy.2.2.1, aL t, .inl (fun j => Int32.ofInt (M.1 t i j))) := by
  unfold eW
  rw [if_neg (aK_lt (by rw [h]; decide)), h]
  rfl
theorem eW_3 {cy : Cy} {ad : Nat → Nat → Nat} {M : Mm} {t i : Nat} (h : aK t = 3) : eW cy ad M t i = .inl (cy.2.2.2, aL t, .inr (.inr (.inr (.inr (fun j => some (ad 3 j)))))) := by
  unfold eW
  rw [if_neg (aK_lt (by rw [h]; decide)), h]
  rfl
theorem eW_o {cy : Cy} {ad : Nat → Nat → Nat} {M : Mm} {t i : Nat} (h : t < 10) : eW cy ad M t i = .inr (t, (List.range (nF t)).map (fvW ad M t i)) := by
  unfold eW
  rw [if_pos h]
/-- where a field of an object in the world points to, a cell of the world lies -/
def domOk : Bool := dom.all fun d => bif Nat.blt d.1 10 then (List.range (nF d.1)).all (fun k => match fK d.1 k with
  | 0 => true
  | 1 => true
  | 2 => dom.contains (100 * d.1 + k + 100, d.2)
  | _ => dom.contains (oF (100 * d.1 + k) d.2)) else true
set_option maxRecDepth 100000 in
theorem dom_ok : domOk = true := by decide +kernel
theorem dom_arr {t i k : Nat} (h : (t, i) ∈ dom) (ht : t < 10) (hk : k < nF t) (hf : fK t k = 2) : (100 * t + k + 100, i) ∈ dom := by
  have h1 := List.all_eq_true.mp dom_ok (t, i) h
  rw [show Nat.blt t 10 = true from Nat.ble_eq_true_of_le ht] at h1
  have h2 := List.all_eq_true.mp h1 k (List.mem_range.mpr hk)
  simp only [hf] at h2
  exact List.contains_iff_mem.mp h2
theorem dom_obj {t i k : Nat} (h : (t, i) ∈ dom) (ht : t < 10) (hk : k < nF t) (h0 : fK t k ≠ 0) (h1 : fK t k ≠ 1) (h2 : fK t k ≠ 2) : oF (100 * t + k) i ∈ dom := by
  have g1 := List.all_eq_true.mp dom_ok (t, i) h
  rw [show Nat.blt t 10 = true from Nat.ble_eq_true_of_le ht] at g1
  have g2 := List.all_eq_true.mp g1 k (List.mem_range.mpr hk)
  split at g2
  · next e => exact absurd e h0
  · next e => exact absurd e h1
  · next e => exact absurd e h2
  · exact List.contains_iff_mem.mp g2
theorem fvW_map {ad : Nat → Nat → Nat} {M : Mm} {t i k : Nat} (hk : k < nF t) : ((List.range (nF t)).map (fvW ad M t i))[k]? = some (fvW ad M t i k) := by
  rw [List.getElem?_map, List.getElem?_range hk]
  rfl
theorem fvW_set {ad : Nat → Nat → Nat} {M : Mm} {t i k : Nat} {v : Int} (hf : fK t k = 0 ∨ fK t k = 1) : ((List.range (nF t)).map (fvW ad M t i)).set k (.int (Int32.ofInt v)) = (List.range (nF t)).map (fvW ad (setI M t i k v) t i) := by
  apply List.ext_getElem?
  intro j
  by_cases hj : j < nF t
  · by_cases hk : j = k
    · subst hk
      rw [List.getElem?_set_self (by simpa using hj), fvW_map hj]
      unfold fvW
      rw [setI_1, if_pos ⟨rfl, rfl, rfl⟩]
      rcases hf with h | h <;> rw [h] <;> rfl
    · rw [List.getElem?_set_ne (Ne.symm hk), fvW_map hj, fvW_map hj]
      unfold fvW
      rw [setI_1, if_neg (fun h => hk h.2.2)]
  · rw [List.getElem?_eq_none (by simp; omega), List.getElem?_eq_none (by simp; omega)]

/-! at most 144 branches -/
/-- d phases below component b of phase k lies component b2 of phase k2 -/
def Dsd (pr : Nat → Nat → Int) : Nat → Nat → Nat → Nat → Nat → Prop
  | 0, k, b, k2, b2 => k2 = k ∧ b2 = b
  | d + 1, k, b, k2, b2 => ∃ c, pr (k + 1) c = b ∧ Dsd pr d (k + 1) c k2 b2
theorem Dsd.ph {pr : Nat → Nat → Int} : ∀ {d k b k2 b2 : Nat}, Dsd pr d k b k2 b2 → k2 = k + d
  | 0, _, _, _, _, h => h.1
  | d + 1, k, b, k2, b2, ⟨c, _, h⟩ => by
    have := Dsd.ph h
    omega
theorem Dsd.un {pr : Nat → Nat → Int} : ∀ {d k b b' k2 b2 : Nat}, Dsd pr d k b k2 b2 → Dsd pr d k b' k2 b2 → b = b'
  | 0, _, _, _, _, _, h, g => h.2.symm.trans g.2
  | d + 1, k, b, b', k2, b2, ⟨c, h1, h⟩, ⟨c', g1, g⟩ => by
    have e := Dsd.un h g
    rw [e, g1] at h1
    omega
theorem Dsd.tr {pr : Nat → Nat → Int} : ∀ {d e k b k1 b1 k2 b2 : Nat}, Dsd pr d k b k1 b1 → Dsd pr e k1 b1 k2 b2 → Dsd pr (d + e) k b k2 b2
  | 0, e, k, b, k1, b1, k2, b2, h, g => by
    obtain ⟨h1, h2⟩ := h
    subst h1
    subst h2
    rw [Nat.zero_add]
    exact g
  | d + 1, e, k, b, k1, b1, k2, b2, ⟨c, h1, h⟩, g => by
    rw [show d + 1 + e = d + e + 1 by omega]
    exact ⟨c, h1, Dsd.tr h g⟩
section Few
variable {cnt : Nat → Nat} {pr : Nat → Nat → Int}
theorem enF_ds : ∀ (F k b : Nat), ∃ d, Dsd pr d k b (enF cnt pr F k b).1 (enF cnt pr F k b).2
  | 0, k, b => ⟨0, rfl, rfl⟩
  | F + 1, k, b => by
    by_cases h : kdn cnt pr k b = 1
    · rw [enF_s cnt pr h]
      obtain ⟨d, hd⟩ := enF_ds F (k + 1) (fch cnt pr k b)
      exact ⟨d + 1, fch cnt pr k b, (fch_s (by omega)).2.1, hd⟩
    · rw [enF_e cnt pr h]
      exact ⟨0, rfl, rfl⟩
/-- a branch ends where there is not one child -/
theorem enF_n1 {N : Nat} (h0 : ∀ k, N ≤ k → cnt k = 0) : ∀ (F k b : Nat), N ≤ F + k → kdn cnt pr (enF cnt pr F k b).1 (enF cnt pr F k b).2 ≠ 1
  | 0, k, b, h => by
    have e : kdn cnt pr k b = 0 := by
      unfold kdn
      rw [h0 (k + 1) (by omega)]
      rfl
    show kdn cnt pr k b ≠ 1
    omega
  | F + 1, k, b, h => by
    by_cases g : kdn cnt pr k b = 1
    · rw [enF_s cnt pr g]
      exact enF_n1 h0 F (k + 1) (fch cnt pr k b) (by omega)
    · rw [enF_e cnt pr g]
      exact g
/-- where a branch ends there is a component -/
theorem enF_lt : ∀ (F k b : Nat), b < cnt k → (enF cnt pr F k b).2 < cnt (enF cnt pr F k b).1
  | 0, k, b, h => h
  | F + 1, k, b, h => by
    by_cases g : kdn cnt pr k b = 1
    · rw [enF_s cnt pr g]
      exact enF_lt F (k + 1) (fch cnt pr k b) (fch_s (by omega)).1
    · rw [enF_e cnt pr g]
      exact h
theorem kdA_mem {T : Nat → Nat → List Rc} {p : Nat → Bool} {i : Nat} {r : Rc} : ∀ {c : Nat}, r ∈ kdA T p i c → ∃ c' j, c' < c ∧ p c' = true ∧ r ∈ T c' j
  | 0, h => by cases h
  | c + 1, h => by
    cases hp : p c with
    | false =>
      rw [kdA_n hp] at h
      obtain ⟨c', j, h1, h2, h3⟩ := kdA_mem h
      exact ⟨c', j, by omega, h2, h3⟩
    | true =>
      rw [kdA_y hp] at h
      rcases List.mem_append.mp h with h | h
      · obtain ⟨c', j, h1, h2, h3⟩ := kdA_mem h
        exact ⟨c', j, by omega, h2, h3⟩
      · exact ⟨c, _, by omega, hp, h⟩
theorem trL_c (F k b : Nat) (p : Int) (i : Nat) : trL cnt pr (F + 1) k b p i = (k, b, (enF cnt pr 12 k b).1, (enF cnt pr 12 k b).2, p) :: kdA (fun c j => trL cnt pr F ((enF cnt pr 12 k b).1 + 1) c (i : Int) j) (isK pr (enF cnt pr 12 k b).1 (enF cnt pr 12 k b).2) (i + 1) (cnt ((enF cnt pr 12 k b).1 + 1)) := rfl
/-- all of a branch's list lies below it -/
theorem trL_ds : ∀ (F k b : Nat) (p : Int) (i : Nat) (r : Rc), b < cnt k → r ∈ trL cnt pr F k b p i → (∃ d, Dsd pr d k b r.2.2.1 r.2.2.2.1) ∧ r.2.2.2.1 < cnt r.2.2.1
  | 0, _, _, _, _, _, _, h => by cases h
  | F + 1, k, b, p, i, r, hb, h => by
    rw [trL_c] at h
    rcases List.mem_cons.mp h with h | h
    · rw [h]
      exact ⟨enF_ds 12 k b, enF_lt 12 k b hb⟩
    · obtain ⟨c, j, h1, h2, h3⟩ := kdA_mem h
      obtain ⟨⟨d, hd⟩, hl⟩ := trL_ds F _ c _ j r h1 h3
      obtain ⟨d0, hd0⟩ := enF_ds (cnt := cnt) (pr := pr) 12 k b
      exact ⟨⟨d0 + (d + 1), hd0.tr ⟨c, of_decide_eq_true h2, hd⟩⟩, hl⟩
def Apt (r s : Rc) : Prop := ¬ (r.2.2.1 = s.2.2.1 ∧ r.2.2.2.1 = s.2.2.2.1)
theorem kdA_apt {T : Nat → Nat → List Rc} {p : Nat → Bool} {i k n : Nat} (h1 : ∀ c j, c < n → (T c j).Pairwise Apt) (h2 : ∀ c j r, c < n → r ∈ T c j → ∃ d, Dsd pr d k c r.2.2.1 r.2.2.2.1) : ∀ {c : Nat}, c ≤ n → (kdA T p i c).Pairwise Apt
  | 0, _ => List.Pairwise.nil
  | c + 1, hc => by
    cases hp : p c with
    | false =>
      rw [kdA_n hp]
      exact kdA_apt h1 h2 (by omega)
    | true =>
      rw [kdA_y hp]
      refine List.pairwise_append.mpr ⟨kdA_apt h1 h2 (by omega), h1 c _ (by omega), fun r hr s hs => ?_⟩
      rintro ⟨e1, e2⟩
      obtain ⟨c', j, g1, -, g3⟩ := kdA_mem hr
      obtain ⟨d, hd⟩ := h2 c' j r (by omega) g3
      obtain ⟨d', hd'⟩ := h2 c _ s (by omega) hs
      rw [e1, e2] at hd
      have p1 := hd.ph
      have p2 := hd'.ph
      have ed : d = d' := by omega
      rw [ed] at hd
      have := hd.un hd'
      omega
theorem trL_apt : ∀ (F k b : Nat) (p : Int) (i : Nat), (trL cnt pr F k b p i).Pairwise Apt
  | 0, _, _, _, _ => List.Pairwise.nil
  | F + 1, k, b, p, i => by
    rw [trL_c]
    refine List.pairwise_cons.mpr ⟨fun r hr => ?_, ?_⟩
    · rintro ⟨e1, -⟩
      obtain ⟨c, j, h1, -, h3⟩ := kdA_mem hr
      obtain ⟨⟨d, hd⟩, -⟩ := trL_ds F _ c _ j r h1 h3
      have := hd.ph
      have e1' : (enF cnt pr 12 k b).1 = r.2.2.1 := e1
      omega
    · exact kdA_apt (n := cnt ((enF cnt pr 12 k b).1 + 1)) (fun c j _ => trL_apt F _ c _ j) (fun c j r hc hr => (trL_ds F _ c _ j r hc hr).1) (Nat.le_refl _)
theorem roots_mem {r : Rc} (h : r ∈ roots cnt pr) : r.2.2.2.1 < cnt r.2.2.1 := by
  obtain ⟨c, j, h1, -, h3⟩ := kdA_mem h
  exact (trL_ds 13 0 c _ j r h1 h3).2
theorem roots_apt : (roots cnt pr).Pairwise Apt := kdA_apt (n := cnt 0) (fun c j _ => trL_apt 13 0 c _ j) (fun c j r hc hr => (trL_ds 13 0 c _ j r hc hr).1) (Nat.le_refl _)
/-- leaves -/
def lfB (cnt : Nat → Nat) (pr : Nat → Nat → Int) (r : Rc) : Bool := decide (kdn cnt pr r.2.2.1 r.2.2.2.1 = 0)
theorem kdA_lf {T : Nat → Nat → List Rc} {p : Nat → Bool} {i n : Nat} (h : ∀ c j, c < n → (T c j).length + 1 ≤ 2 * (T c j).countP (lfB cnt pr)) : ∀ {c : Nat}, c ≤ n → (kdA T p i c).length + cntB p c ≤ 2 * (kdA T p i c).countP (lfB cnt pr)
  | 0, _ => Nat.le_refl _
  | c + 1, hc => by
    have ih := kdA_lf (p := p) (i := i) h (c := c) (by omega)
    cases hp : p c with
    | false => rw [kdA_n hp, cntB_n hp]; exact ih
    | true =>
      rw [kdA_y hp, cntB_y hp, List.length_append, List.countP_append]
      have := h c (i + (kdA T p i c).length) (by omega)
      omega
theorem trL_lf {N : Nat} (hN : N ≤ 12) (h0 : ∀ k, N ≤ k → cnt k = 0) : ∀ (F k b : Nat) (p : Int) (i : Nat), 13 ≤ F + k → k < N → (trL cnt pr F k b p i).length + 1 ≤ 2 * (trL cnt pr F k b p i).countP (lfB cnt pr)
  | 0, k, _, _, _, h, g => by omega
  | F + 1, k, b, p, i, h, g => by
    have hge := enF_ge cnt pr 12 k b
    have h1 := enF_n1 (pr := pr) h0 12 k b (by omega)
    have ih := kdA_lf (cnt := cnt) (pr := pr) (T := fun c j => trL cnt pr F ((enF cnt pr 12 k b).1 + 1) c (i : Int) j) (p := isK pr (enF cnt pr 12 k b).1 (enF cnt pr 12 k b).2) (i := i + 1) (n := cnt ((enF cnt pr 12 k b).1 + 1)) (fun c j hc => by
      have hk : (enF cnt pr 12 k b).1 + 1 < N := Classical.byContradiction fun hn => by
        have := h0 ((enF cnt pr 12 k b).1 + 1) (by omega)
        omega
      exact trL_lf hN h0 F ((enF cnt pr 12 k b).1 + 1) c _ j (by omega) hk) (Nat.le_refl _)
    rw [trL_c, List.length_cons]
    have ek : kdn cnt pr (enF cnt pr 12 k b).1 (enF cnt pr 12 k b).2 = cntB (isK pr (enF cnt pr 12 k b).1 (enF cnt pr 12 k b).2) (cnt ((enF cnt pr 12 k b).1 + 1)) := rfl
    by_cases hz : kdn cnt pr (enF cnt pr 12 k b).1 (enF cnt pr 12 k b).2 = 0
    · rw [List.countP_cons_of_pos (p := lfB cnt pr) (a := (k, b, (enF cnt pr 12 k b).1, (enF cnt pr 12 k b).2, p)) (decide_eq_true hz)]
      omega
    · rw [List.countP_cons_of_neg (p := lfB cnt pr) (a := (k, b, (enF cnt pr 12 k b).1, (enF cnt pr 12 k b).2, p)) (fun e => hz (of_decide_eq_true e))]
      omega
theorem roots_lf {N : Nat} (hN : N ≤ 12) (h0 : ∀ k, N ≤ k → cnt k = 0) : (roots cnt pr).length ≤ 2 * (roots cnt pr).countP (lfB cnt pr) := by
  have := kdA_lf (cnt := cnt) (pr := pr) (T := fun c j => trL cnt pr 13 0 c (-1) j) (p := fun c => decide (pr 0 c = -1)) (i := 0) (n := cnt 0) (fun c j hc => by
    have hk : 0 < N := Classical.byContradiction fun hn => by
      have := h0 0 (by omega)
      omega
    exact trL_lf hN h0 13 0 c _ j (by omega) hk) (Nat.le_refl _)
  unfold roots
  omega
end Few
/-- as few as the places -/
theorem few_pig : ∀ (m : Nat) (l : List Nat), l.Nodup → (∀ x, x ∈ l → x < m) → l.length ≤ m
  | 0, l, _, h => by
    cases l with
    | nil => exact Nat.le_refl 0
    | cons a l => exact absurd (h a List.mem_cons_self) (Nat.not_lt_zero a)
  | m + 1, l, hn, h => by
    by_cases g : m ∈ l
    · have h1 := List.length_erase_of_mem g
      have h2 := few_pig m (l.erase m) (hn.erase m) fun x hx => by
        have := hn.mem_erase_iff.mp hx
        have h3 := h x this.2
        have h4 := this.1
        omega
      omega
    · have := few_pig m l hn fun x hx => by
        have h3 := h x hx
        have h4 : x ≠ m := fun e => g (by rw [← e]; exact hx)
        omega
      omega
theorem roots_le {f : Nat → Int} {N : Nat} (hN : IsN f N) : (roots (nc f) (prK f)).length ≤ 144 := by
  have h1 := roots_lf (cnt := nc f) (pr := prK f) hN.le (fun k hk => hN.nc0 hk)
  have h2 : (roots (nc f) (prK f)).countP (lfB (nc f) (prK f)) ≤ 72 := by
    rw [List.countP_eq_length_filter]
    have e := List.length_map (as := (roots (nc f) (prK f)).filter (lfB (nc f) (prK f))) fun r : Rc => dmn r.2.2.1 (fcK f r.2.2.1 r.2.2.2.1)
    rw [← e]
    have hm : ∀ r : Rc, r ∈ (roots (nc f) (prK f)).filter (lfB (nc f) (prK f)) → r.2.2.2.1 < nc f r.2.2.1 ∧ kdn (nc f) (prK f) r.2.2.1 r.2.2.2.1 = 0 := fun r hr => by
      obtain ⟨a, b⟩ := List.mem_filter.mp hr
      exact ⟨roots_mem a, of_decide_eq_true b⟩
    refine few_pig 72 _ ?_ fun x hx => ?_
    · refine List.pairwise_map.mpr ?_
      refine List.Pairwise.imp_of_mem ?_ (roots_apt.filter (lfB (nc f) (prK f)))
      intro r s hr hs hap ed
      obtain ⟨a1, a2⟩ := hm r hr
      obtain ⟨b1, b2⟩ := hm s hs
      rcases Nat.lt_trichotomy r.2.2.1 s.2.2.1 with k | k | k
      · exact leaf_ne a1 b1 a2 k ed
      · refine hap ⟨k, ?_⟩
        have ed' : dmn r.2.2.1 (fcK f r.2.2.1 r.2.2.2.1) = dmn s.2.2.1 (fcK f s.2.2.1 s.2.2.2.1) := ed
        rw [k] at ed' a1
        exact leaf_eq a1 b1 ed'
      · exact leaf_ne b1 a1 b2 k ed.symm
    · obtain ⟨r, hr, e⟩ := List.mem_map.mp hx
      obtain ⟨a1, -⟩ := hm r hr
      rw [← e]
      exact dmn_lt (fcK_s a1).2.1.1
  omega

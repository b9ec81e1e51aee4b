/-! the text read: commands -/
def chr (s : Nat → Int) (len p : Nat) : Int := if p < len then s p else 0
def nmP (s : Nat → Int) (len p : Nat) (lo hi : Int) : Nat ⊕ (Nat × Int) :=
  if dgV (chr s len p) < 0 then .inl p
  else if dgV (chr s len p) ≠ 0 ∧ 0 ≤ dgV (chr s len (p + 1)) then (if lo ≤ 10 * dgV (chr s len p) + dgV (chr s len (p + 1)) ∧ 10 * dgV (chr s len p) + dgV (chr s len (p + 1)) ≤ hi then .inr (p + 2, 10 * dgV (chr s len p) + dgV (chr s len (p + 1))) else .inl p)
  else (if lo ≤ dgV (chr s len p) ∧ dgV (chr s len p) ≤ hi then .inr (p + 1, dgV (chr s len p)) else .inl p)
def sgP (s : Nat → Int) (len p : Nat) (c : Int) : Nat ⊕ Nat := if chr s len p = c then .inr (p + 1) else .inl p
def sgR (s : Nat → Int) (len : Nat) (r : Nat ⊕ Nat) (c : Int) : Nat ⊕ Nat := match r with
  | .inl e => .inl e
  | .inr p => sgP s len p c
def nmR (s : Nat → Int) (len : Nat) (r : Nat ⊕ Nat) (lo hi : Int) : Nat ⊕ (Nat × Int) := match r with
  | .inl e => .inl e
  | .inr p => nmP s len p lo hi
def fsR (r : Nat ⊕ (Nat × Int)) : Nat ⊕ Nat := match r with
  | .inl e => .inl e
  | .inr a => .inr a.1
theorem dg_c (c : Int) : (dgV c = -1 ∧ ¬ (48 ≤ c ∧ c ≤ 57)) ∨ (48 ≤ c ∧ c ≤ 57 ∧ dgV c = c - 48) := by
  unfold dgV
  by_cases h : 48 ≤ c ∧ c ≤ 57
  · rw [if_pos h]; exact Or.inr ⟨h.1, h.2, rfl⟩
  · rw [if_neg h]; exact Or.inl ⟨rfl, h⟩
theorem dg_b (c : Int) : dgV c = -1 ∨ (0 ≤ dgV c ∧ dgV c ≤ 9) := by
  have := dg_c c
  omega
theorem chr_lt {s : Nat → Int} {len p : Nat} (h : chr s len p ≠ 0) : p < len := by
  unfold chr at h
  split at h
  · assumption
  · exact absurd rfl h
theorem dg_lt {s : Nat → Int} {len p : Nat} (h : 0 ≤ dgV (chr s len p)) : p < len := chr_lt fun e => by
  rw [e] at h
  exact absurd h (by decide)
theorem sgP_ok {s : Nat → Int} {len p q : Nat} {c : Int} (hc : c ≠ 0) (h : sgP s len p c = .inr q) : q = p + 1 ∧ q ≤ len := by
  unfold sgP at h
  split at h
  · next e =>
    have := chr_lt (s := s) (len := len) (p := p) (by rw [e]; exact hc)
    cases h
    exact ⟨rfl, this⟩
  · cases h
theorem nmP_ok {s : Nat → Int} {len p : Nat} {lo hi : Int} {a : Nat × Int} (h : nmP s len p lo hi = .inr a) : p + 1 ≤ a.1 ∧ a.1 ≤ len ∧ lo ≤ a.2 ∧ a.2 ≤ hi ∧ 0 ≤ a.2 ∧ a.2 ≤ 99 := by
  have b1 := dg_b (chr s len p)
  have b2 := dg_b (chr s len (p + 1))
  unfold nmP at h
  split at h
  · cases h
  · next g0 =>
    have l1 := dg_lt (s := s) (len := len) (p := p) (by omega)
    split at h
    · next g =>
      have l2 := dg_lt g.2
      split at h
      · next g3 =>
        cases h
        exact ⟨by show p + 1 ≤ p + 2; omega, by show p + 2 ≤ len; omega, g3.1, g3.2, by show 0 ≤ 10 * dgV (chr s len p) + dgV (chr s len (p + 1)); omega, by show 10 * dgV (chr s len p) + dgV (chr s len (p + 1)) ≤ 99; omega⟩
      · cases h
    · split at h
      · next g3 =>
        cases h
        exact ⟨by show p + 1 ≤ p + 1; omega, by show p + 1 ≤ len; omega, g3.1, g3.2, by show 0 ≤ dgV (chr s len p); omega, by show dgV (chr s len p) ≤ 99; omega⟩
      · cases h
/-- a rectangle's four numbers and the end of its command -/
def rcP (s : Nat → Int) (len p : Nat) : Nat ⊕ (Nat × Int × Int × Int × Int) := match nmP s len p 0 11 with
  | .inl e => .inl e
  | .inr a => match sgP s len a.1 44 with
    | .inl e => .inl e
    | .inr b => match nmP s len b 0 11 with
      | .inl e => .inl e
      | .inr c => match sgP s len c.1 44 with
        | .inl e => .inl e
        | .inr d => match nmP s len d 1 (12 - a.2) with
          | .inl e => .inl e
          | .inr g => match sgP s len g.1 44 with
            | .inl e => .inl e
            | .inr h => match nmP s len h 1 (12 - c.2) with
              | .inl e => .inl e
              | .inr i => match sgP s len i.1 59 with
                | .inl e => .inl e
                | .inr q => .inr (q, a.2, c.2, g.2, i.2)
/-- what the four numbers and the places say of it -/
def Rc4 (s : Nat → Int) (len p : Nat) (v1 v2 v3 v4 : Int) (R : Nat ⊕ Nat) : Prop := (∀ e, rcP s len p = .inl e → sgR s len R 59 = .inl e) ∧ ∀ t, rcP s len p = .inr t → sgR s len R 59 = .inr t.1 ∧ v1 = t.2.1 ∧ v2 = t.2.2.1 ∧ v3 = t.2.2.2.1 ∧ v4 = t.2.2.2.2
theorem rc_chain {s : Nat → Int} {len p : Nat} {v1 v2 v3 v4 : Int} {R1 R3 R5 R7 : Nat ⊕ (Nat × Int)} (h1 : R1 = nmP s len p 0 11) (w1 : ∀ a, R1 = .inr a → v1 = a.2) (h3 : R3 = nmR s len (sgR s len (fsR R1) 44) 0 11) (w3 : ∀ a, R3 = .inr a → v2 = a.2) (h5 : R5 = nmR s len (sgR s len (fsR R3) 44) 1 (12 - v1)) (w5 : ∀ a, R5 = .inr a → v3 = a.2) (h7 : R7 = nmR s len (sgR s len (fsR R5) 44) 1 (12 - v2)) (w7 : ∀ a, R7 = .inr a → v4 = a.2) : Rc4 s len p v1 v2 v3 v4 (fsR R7) := by
  unfold Rc4 rcP
  cases e1 : nmP s len p 0 11 with
  | inl e =>
    rw [e1] at h1; subst h1; subst h3; subst h5; subst h7
    exact ⟨fun e' h => by cases h; rfl, fun t h => by cases h⟩
  | inr a =>
    rw [e1] at h1; subst h1
    have a1 := w1 a rfl
    have h3 : R3 = nmR s len (sgP s len a.1 44) 0 11 := h3
    show (∀ e, (match sgP s len a.1 44 with
      | .inl e => Sum.inl e
      | .inr b => _) = Sum.inl e → _) ∧ _
    cases e2 : sgP s len a.1 44 with
    | inl e =>
      rw [e2] at h3; subst h3; subst h5; subst h7
      exact ⟨fun e' h => by cases h; rfl, fun t h => by simp only [e2] at h; cases h⟩
    | inr b =>
      rw [e2] at h3
      have h3 : R3 = nmP s len b 0 11 := h3
      simp only [e2]
      cases e3 : nmP s len b 0 11 with
      | inl e =>
        rw [e3] at h3; subst h3; subst h5; subst h7
        exact ⟨fun e' h => by cases h; rfl, fun t h => by cases h⟩
      | inr c =>
        rw [e3] at h3; subst h3
        have a3 := w3 c rfl
        have h5 : R5 = nmR s len (sgP s len c.1 44) 1 (12 - v1) := h5
        simp only
        cases e4 : sgP s len c.1 44 with
        | inl e =>
          rw [e4] at h5; subst h5; subst h7
          exact ⟨fun e' h => by cases h; rfl, fun t h => by cases h⟩
        | inr d =>
          rw [e4, a1] at h5
          have h5 : R5 = nmP s len d 1 (12 - a.2) := h5
          simp only
          cases e5 : nmP s len d 1 (12 - a.2) with
          | inl e =>
            rw [e5] at h5; subst h5; subst h7
            exact ⟨fun e' h => by cases h; rfl, fun t h => by cases h⟩
          | inr g =>
            rw [e5] at h5; subst h5
            have a5 := w5 g rfl
            have h7 : R7 = nmR s len (sgP s len g.1 44) 1 (12 - v2) := h7
            simp only
            cases e6 : sgP s len g.1 44 with
            | inl e =>
              rw [e6] at h7; subst h7
              exact ⟨fun e' h => by cases h; rfl, fun t h => by cases h⟩
            | inr h =>
              rw [e6, a3] at h7
              have h7 : R7 = nmP s len h 1 (12 - c.2) := h7
              simp only
              cases e7 : nmP s len h 1 (12 - c.2) with
              | inl e =>
                rw [e7] at h7; subst h7
                exact ⟨fun e' h => by cases h; rfl, fun t h => by cases h⟩
              | inr i =>
                rw [e7] at h7; subst h7
                have a7 := w7 i rfl
                simp only
                show (∀ e, _ → sgP s len i.1 59 = _) ∧ (∀ t, _ → sgP s len i.1 59 = _ ∧ _)
                cases e8 : sgP s len i.1 59 with
                | inl e => exact ⟨fun e' h => by cases h; rfl, fun t h => by cases h⟩
                | inr q =>
                  refine ⟨fun e' h => (by cases h), fun t h => ?_⟩
                  cases h
                  exact ⟨rfl, a1, a3, a5, a7⟩
theorem rcP_ok {s : Nat → Int} {len p : Nat} {t : Nat × Int × Int × Int × Int} (h : rcP s len p = .inr t) : p + 1 ≤ t.1 ∧ t.1 ≤ len ∧ (0 ≤ t.2.1 ∧ t.2.1 ≤ 11) ∧ (0 ≤ t.2.2.1 ∧ t.2.2.1 ≤ 11) ∧ (1 ≤ t.2.2.2.1 ∧ t.2.2.2.1 ≤ 12 - t.2.1) ∧ 1 ≤ t.2.2.2.2 ∧ t.2.2.2.2 ≤ 12 - t.2.2.1 := by
  unfold rcP at h
  cases e1 : nmP s len p 0 11 with
  | inl e => rw [e1] at h; cases h
  | inr a =>
    simp only [e1] at h
    cases e2 : sgP s len a.1 44 with
    | inl e => simp only [e2] at h; cases h
    | inr b =>
      simp only [e2] at h
      cases e3 : nmP s len b 0 11 with
      | inl e => simp only [e3] at h; cases h
      | inr c =>
        simp only [e3] at h
        cases e4 : sgP s len c.1 44 with
        | inl e => simp only [e4] at h; cases h
        | inr d =>
          simp only [e4] at h
          cases e5 : nmP s len d 1 (12 - a.2) with
          | inl e => simp only [e5] at h; cases h
          | inr g =>
            simp only [e5] at h
            cases e6 : sgP s len g.1 44 with
            | inl e => simp only [e6] at h; cases h
            | inr i =>
              simp only [e6] at h
              cases e7 : nmP s len i 1 (12 - c.2) with
              | inl e => simp only [e7] at h; cases h
              | inr j =>
                simp only [e7] at h
                cases e8 : sgP s len j.1 59 with
                | inl e => simp only [e8] at h; cases h
                | inr q =>
                  simp only [e8] at h
                  cases h
                  have n1 := nmP_ok e1
                  have n2 := sgP_ok (by decide) e2
                  have n3 := nmP_ok e3
                  have n4 := sgP_ok (by decide) e4
                  have n5 := nmP_ok e5
                  have n6 := sgP_ok (by decide) e6
                  have n7 := nmP_ok e7
                  have n8 := sgP_ok (by decide) e8
                  simp only
                  omega
/-- a command: where it ends, its kind, its numbers -/
def cmP (s : Nat → Int) (len p : Nat) : Nat ⊕ (Nat × Int × Int × Int × Int × Int) :=
  if chr s len p = 114 then (match sgP s len (p + 1) 59 with
    | .inl e => .inl e
    | .inr q => .inr (q, 3, 0, 0, 0, 0))
  else if chr s len p = 109 then (match sgP s len (p + 1) 59 with
    | .inl e => .inl e
    | .inr q => .inr (q, 4, 0, 0, 0, 0))
  else if chr s len p = 43 ∨ chr s len p = 45 ∨ chr s len p = 94 then (match rcP s len (p + 1) with
    | .inl e => .inl e
    | .inr t => .inr (t.1, (if chr s len p ≠ 43 then (if chr s len p ≠ 45 then 2 else 1) else 0), t.2))
  else .inl p
/-- the rectangle of a command lies in the grid -/
def CmOk (c : Int × Int × Int × Int × Int) : Prop := (0 ≤ c.1 ∧ c.1 ≤ 4) ∧ (c.1 ≤ 2 → (0 ≤ c.2.1 ∧ c.2.1 ≤ 11) ∧ (0 ≤ c.2.2.1 ∧ c.2.2.1 ≤ 11) ∧ (1 ≤ c.2.2.2.1 ∧ c.2.2.2.1 ≤ 12 - c.2.1) ∧ 1 ≤ c.2.2.2.2 ∧ c.2.2.2.2 ≤ 12 - c.2.2.1)
theorem cmP_ok {s : Nat → Int} {len p q : Nat} {c : Int × Int × Int × Int × Int} (h : cmP s len p = .inr (q, c)) : p + 2 ≤ q ∧ q ≤ len ∧ CmOk c := by
  unfold cmP at h
  split at h
  · cases e : sgP s len (p + 1) 59 with
    | inl a => rw [e] at h; cases h
    | inr b =>
      rw [e] at h; cases h
      have := sgP_ok (by decide) e
      exact ⟨by omega, this.2, ⟨by decide, by decide⟩, fun h => absurd h (by decide)⟩
  · split at h
    · cases e : sgP s len (p + 1) 59 with
      | inl a => rw [e] at h; cases h
      | inr b =>
        rw [e] at h; cases h
        have := sgP_ok (by decide) e
        exact ⟨by omega, this.2, ⟨by decide, by decide⟩, fun h => absurd h (by decide)⟩
    · split at h
      · cases e : rcP s len (p + 1) with
        | inl a => rw [e] at h; cases h
        | inr t =>
          rw [e] at h; cases h
          have := rcP_ok e
          refine ⟨by omega, this.2.1, ?_, fun _ => this.2.2⟩
          show 0 ≤ (if chr s len p ≠ 43 then (if chr s len p ≠ 45 then (2 : Int) else 1) else 0) ∧ (if chr s len p ≠ 43 then (if chr s len p ≠ 45 then (2 : Int) else 1) else 0) ≤ 4
          split
          · split <;> omega
          · omega
      · cases h
/-! the class reads -/
def St6 (M : Mm) (s : Nat → Int) (len : Nat) (r : Nat ⊕ Nat) : Prop := M.1 700 0 = s ∧ M.1 6 0 3 = len ∧ match r with
  | .inl e => M.1 6 0 4 = (e : Int)
  | .inr p => M.1 6 0 4 = -1 ∧ M.1 6 0 2 = (p : Int) ∧ p ≤ len
theorem St6.fx {M M' : Mm} {s : Nat → Int} {len : Nat} {r : Nat ⊕ Nat} (h : St6 M s len r) (e : M'.1 700 0 = M.1 700 0 ∧ M'.1 6 0 = M.1 6 0) : St6 M' s len r := by
  unfold St6
  rw [e.1, e.2]
  exact h
theorem sg_chr {s : Nat → Int} {len p : Nat} (h : len ≤ 60) : sgV s (p : Int) (len : Int) = chr s len p := by
  unfold sgV chr
  by_cases q : p < len
  · rw [if_pos (by omega), if_pos q, Int.toNat_natCast]
  · rw [if_neg (by omega), if_neg q]
def F6 (M M' : Mm) : Prop := Fx (fun t j => t = 6 ∧ j = 0) M M' ∧ ∀ q, q ≠ 2 → q ≠ 4 → M'.1 6 0 q = M.1 6 0 q
theorem F6.set {M : Mm} {k : Nat} {v : Int} (h : k = 2 ∨ k = 4) : F6 M (setI M 6 0 k v) := ⟨Fx.setI ⟨rfl, rfl⟩, fun q h1 h2 => by rw [setI_at, ups_ne (by omega)]⟩
theorem F6.rf {M : Mm} : F6 M M := ⟨Fx.rf, fun _ _ _ => rfl⟩
theorem F6.tr {M M1 M2 : Mm} (h : F6 M M1) (g : F6 M1 M2) : F6 M M2 := ⟨h.1.tr g.1, fun q h1 h2 => (g.2 q h1 h2).trans (h.2 q h1 h2)⟩
theorem c609 {c : Int} {s : Nat → Int} {len : Nat} {r : Nat ⊕ Nat} {M : Mm} {Q : Mm → Prop} (hc : c ≠ 0) (h60 : len ≤ 60) (hT : St6 M s len r) (hQ : ∀ M', F6 M M' → St6 M' s len (sgR s len r c) → Q M') : E_609 c M Q := by
  obtain ⟨t1, t2, t3⟩ := hT
  cases r with
  | inl e =>
    have t3 : M.1 6 0 4 = (e : Int) := t3
    exact s_609_0 ⟨fun h => by omega, fun _ => hQ M F6.rf ⟨t1, t2, t3⟩⟩
  | inr p =>
    obtain ⟨a1, a2, a3⟩ : M.1 6 0 4 = -1 ∧ M.1 6 0 2 = (p : Int) ∧ p ≤ len := t3
    refine s_609_0 ⟨fun _ => ?_, fun h => by omega⟩
    rw [a2, t2, t1, sg_chr h60]
    refine ⟨fun hne M1 e1 => ?_, fun heq => ⟨by omega, fun M1 e1 => ?_⟩⟩
    · have e : sgR s len (.inr p) c = .inl p := if_neg hne
      have := hQ M1 (by rw [e1]; exact F6.set (Or.inr rfl))
      rw [e] at this
      exact this ⟨by rw [e1, setI_ne (by omega)]; exact t1, by rw [e1, setI_at, ups_ne (by omega)]; exact t2, by show M1.1 6 0 4 = (p : Int); rw [e1, setI_at, ups_at]⟩
    · have e : sgR s len (.inr p) c = .inr (p + 1) := if_pos heq
      have hl := chr_lt (s := s) (len := len) (p := p) (by rw [heq]; exact hc)
      have := hQ M1 (by rw [e1]; exact F6.set (Or.inl rfl))
      rw [e] at this
      exact this ⟨by rw [e1, setI_ne (by omega)]; exact t1, by rw [e1, setI_at, ups_ne (by omega)]; exact t2, by rw [e1, setI_at, ups_ne (by omega)]; exact a1, by rw [e1, setI_at, ups_at]; omega, hl⟩
theorem c608 {lo hi : Int} {s : Nat → Int} {len : Nat} {r : Nat ⊕ Nat} {M : Mm} {Q : Int → Mm → Prop} (h60 : len ≤ 60) (hT : St6 M s len r) (hQ : ∀ M' v, F6 M M' → St6 M' s len (fsR (nmR s len r lo hi)) → (∀ a, nmR s len r lo hi = .inr a → v = a.2) → 0 ≤ v ∧ v ≤ 99 → Q v M') : E_608 lo hi M Q := by
  obtain ⟨t1, t2, t3⟩ := hT
  cases r with
  | inl e =>
    have t3 : M.1 6 0 4 = (e : Int) := t3
    exact s_608_0 ⟨fun h => by omega, fun _ => hQ M 0 F6.rf ⟨t1, t2, t3⟩ (fun a h => by cases h) (by omega)⟩
  | inr p =>
    obtain ⟨a1, a2, a3⟩ : M.1 6 0 4 = -1 ∧ M.1 6 0 2 = (p : Int) ∧ p ≤ len := t3
    have hn : nmR s len (.inr p) lo hi = nmP s len p lo hi := rfl
    rw [hn] at hQ
    have b1 := dg_b (chr s len p)
    have b2 := dg_b (chr s len (p + 1))
    -- an error: its place
    have bad : ∀ (M1 M2 : Mm) (v : Int), F6 M M1 → M2 = setI M1 6 0 4 (p : Int) → nmP s len p lo hi = .inl p → 0 ≤ v ∧ v ≤ 99 → Q v M2 := fun M1 M2 v f1 e2 e hv => by
      have := hQ M2 v (f1.tr (by rw [e2]; exact F6.set (Or.inr rfl)))
      rw [e] at this
      exact this ⟨by rw [e2, setI_ne (by omega), (f1.1 700 0 (by omega)).1]; exact t1, by rw [e2, setI_at, ups_ne (by omega), f1.2 3 (by omega) (by omega)]; exact t2, by show M2.1 6 0 4 = (p : Int); rw [e2, setI_at, ups_at]⟩ (fun a h => by cases h) hv
    refine s_608_0 ⟨fun _ x3 e3 x4 e4 => ?_, fun h => by omega⟩
    rw [a2] at e3
    rw [a2, t2, t1, sg_chr h60] at e4
    subst e3
    subst e4
    refine ⟨fun h0 => ⟨by omega, fun M1 e1 => ?_⟩, fun hneg M1 e1 => ?_⟩
    · have hl := dg_lt h0
      have f1 : F6 M M1 := by rw [e1]; exact F6.set (Or.inl rfl)
      have q2 : M1.1 6 0 2 = ((p + 1 : Nat) : Int) := by rw [e1, setI_at, ups_at, a2]; omega
      have q3 : M1.1 6 0 3 = len := by rw [f1.2 3 (by omega) (by omega)]; exact t2
      have q4 : M1.1 6 0 4 = -1 := by rw [e1, setI_at, ups_ne (by omega)]; exact a1
      have q7 : M1.1 700 0 = s := by rw [(f1.1 700 0 (by omega)).1]; exact t1
      -- one digit
      have one : ¬ (dgV (chr s len p) ≠ 0 ∧ 0 ≤ dgV (chr s len (p + 1))) → (dgV (chr s len p) < lo → ∀ M2 : Mm, M2 = setI M1 6 0 4 (p : Int) → Q (dgV (chr s len p)) M2) ∧ (lo ≤ dgV (chr s len p) → (dgV (chr s len p) ≤ hi → Q (dgV (chr s len p)) M1) ∧ (hi < dgV (chr s len p) → ∀ M2 : Mm, M2 = setI M1 6 0 4 (p : Int) → Q (dgV (chr s len p)) M2)) := fun hno => by
        have e : nmP s len p lo hi = if lo ≤ dgV (chr s len p) ∧ dgV (chr s len p) ≤ hi then .inr (p + 1, dgV (chr s len p)) else .inl p := by
          unfold nmP
          rw [if_neg (by omega), if_neg hno]
        refine ⟨fun h M2 e2 => bad M1 M2 _ f1 e2 (by rw [e, if_neg (by omega)]) (by omega), fun h => ⟨fun h2 => ?_, fun h2 M2 e2 => bad M1 M2 _ f1 e2 (by rw [e, if_neg (by omega)]) (by omega)⟩⟩
        rw [if_pos ⟨h, h2⟩] at e
        have := hQ M1 (dgV (chr s len p)) f1
        rw [e] at this
        exact this ⟨q7, q3, q4, q2, hl⟩ (fun a h => by cases h; rfl) (by omega)
      refine ⟨fun hne x5 e5 => ?_, fun hz => one fun g => g.1 hz⟩
      rw [q7, q2, q3, sg_chr h60] at e5
      subst e5
      refine ⟨fun h5 => one fun g => by omega, fun h5 => ⟨by omega, fun x6 e6 => ⟨by omega, fun M2 e2 => ?_⟩⟩⟩
      have hl2 := dg_lt h5
      have e : nmP s len p lo hi = if lo ≤ 10 * dgV (chr s len p) + dgV (chr s len (p + 1)) ∧ 10 * dgV (chr s len p) + dgV (chr s len (p + 1)) ≤ hi then .inr (p + 2, 10 * dgV (chr s len p) + dgV (chr s len (p + 1))) else .inl p := by
        unfold nmP
        rw [if_neg (by omega), if_pos ⟨hne, h5⟩]
      rw [← e6] at e
      have f2 : F6 M M2 := f1.tr (by rw [e2]; exact F6.set (Or.inl rfl))
      refine ⟨fun h M3 e3 => bad M2 M3 _ f2 e3 (by rw [e, if_neg (by omega)]) (by omega), fun h => ⟨fun h2 => ?_, fun h2 M3 e3 => bad M2 M3 _ f2 e3 (by rw [e, if_neg (by omega)]) (by omega)⟩⟩
      rw [if_pos ⟨h, h2⟩] at e
      have := hQ M2 x6 f2
      rw [e] at this
      exact this ⟨by rw [(f2.1 700 0 (by omega)).1]; exact t1, by rw [f2.2 3 (by omega) (by omega)]; exact t2, by rw [e2, setI_at, ups_ne (by omega)]; exact q4, by rw [e2, setI_at, ups_at, q2]; show ((p + 1 : Nat) : Int) + 1 = ((p + 2 : Nat) : Int); omega, hl2⟩ (fun a h => by cases h; rfl) (by omega)
    · rw [a2] at e1
      exact bad M M1 0 F6.rf e1 (by unfold nmP; rw [if_pos hneg]) (by omega)

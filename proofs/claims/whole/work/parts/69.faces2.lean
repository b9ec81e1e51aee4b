/-! faces of all squares; by the reference -/
theorem Edc.fx {M M' : Mm} {P : Int → Int → Bool} (h : Edc M P) (e : ∀ t, t = 0 ∨ (100 ≤ t ∧ t ≤ 107) → M'.1 t 0 = M.1 t 0) : Edc M' P := by
  unfold Edc EdC EdB at h ⊢
  rw [e 0 (by omega), e 100 (by omega), e 101 (by omega), e 102 (by omega), e 103 (by omega), e 104 (by omega), e 105 (by omega), e 106 (by omega), e 107 (by omega)]
  exact h
noncomputable def fcC (f : Nat → Int) (c : Nat) : Int := if sd f c 25 ≠ 0 then fcV (lay f 1) (2 * smx c + 1) (2 * smy c + 1) (2 * (sd f c 25 : Int) - 1) else -1
def TF (t j : Nat) : Prop := t = 609 ∧ j = 0
theorem c516 {f : Nat → Int} {M : Mm} {Q : Mm → Prop} (hs : ∀ c, c < 144 → M.1 608 0 c = sd f c 25) (hg : EG (lay f 1)) (hE : Edc M (lay f 1)) (hQ : ∀ M', Fx TF M M' → (∀ c, c < 144 → M'.1 609 0 c = fcC f c) → Q M') : E_516 M Q := by
  refine s_516_0 ?_
  have key : ∀ (s c : Nat) (M' : Mm), c + s = 144 → Fx TF M M' → (∀ c', c' < c → M'.1 609 0 c' = fcC f c') → L_516_2 (c : Int) M' Q := by
    intro s
    induction s with
    | zero =>
      intro c M' hc hf h
      refine s_516_2 ⟨fun _ => hQ M' hf fun c' hc' => h c' (by omega), fun h => by omega⟩
    | succ s ih =>
      intro c M' hc hf h
      have h8 : M'.1 608 0 = M.1 608 0 := (hf 608 0 (by simp [TF])).1
      have hE' : Edc M' (lay f 1) := hE.fx fun t ht => (hf t 0 (by unfold TF; omega)).1
      have hsc : M'.1 608 0 c = sd f c 25 := by rw [h8]; exact hs c (by omega)
      have hle := sd_le f c 25
      have step : ∀ (v : Int) (M2 : Mm), v = fcC f c → M2 = setI M' 609 0 c v → L_516_2 ((c : Int) + 1) M2 Q := by
        intro v M2 hv e2
        refine ih (c + 1) M2 (by omega) (hf.tr (by rw [e2]; exact Fx.setI ⟨rfl, rfl⟩)) fun c' hc' => ?_
        rw [e2, setI_at]
        by_cases k : c' = c
        · rw [k, ups_at, hv]
        · rw [ups_ne k]; exact h c' (by omega)
      refine s_516_2 ⟨fun h => by omega, fun _ => ?_⟩
      rw [atN_i (by omega) (by omega), Int.toNat_natCast, hsc]
      refine ⟨fun h0 => c517 (by omega) hsc (by omega) hg hE' ⟨by omega, fun M2 e2 => ⟨by omega, ?_⟩⟩, fun h0 => ⟨by omega, fun M2 e2 => ⟨by omega, ?_⟩⟩⟩
      · refine step _ M2 ?_ e2
        unfold fcC
        rw [if_pos (by omega)]
      · refine step _ M2 ?_ e2
        unfold fcC
        rw [if_neg (by omega)]
  exact key 144 0 M rfl Fx.rf fun c' h => absurd h (Nat.not_lt_zero c')
theorem sd_cel {f : Nat → Int} {x y : Nat} (hx : x < 12) (hy : y < 12) : 0 < sd f (12 * y + x) 25 ↔ cel f x y = true := by
  obtain ⟨k1, k2⟩ := sd_lay (f := f) (c := 12 * y + x) (n := 25)
  have e : lay f 0 (smx (12 * y + x)) (smy (12 * y + x)) = cel f x y := by
    rw [lay_0]
    rw [show smx (12 * y + x) / 4 = (x : Int) by unfold smx; omega, show smy (12 * y + x) / 4 = (y : Int) by unfold smy; omega]
  rw [← e]
  constructor
  · exact k1 0
  · intro h
    refine Nat.pos_of_ne_zero fun h0 => ?_
    rw [h0] at k2
    rw [k2 (by omega)] at h
    cases h
/-- the face of a square -/
noncomputable def fcX (f : Nat → Int) (x y : Int) : Int := if cel f x y = true then fcC f (12 * y + x).toNat else -1
theorem c1044 {f : Nat → Int} {x y : Int} {M : Mm} {Q : Int → Mm → Prop} (hf : M.1 1101 0 = f) (hR : R12 f) (hv : Vok (lay f 1)) (hE : Edm M (lay f 1)) (hQ : Q (fcX f x y) M) : E_1044 x y M Q := by
  have hg := EG.of hv
  have hT := hg.1
  refine s_1044_0 ?_
  rw [hf, hasW_cel hR]
  unfold fcX at hQ
  cases hc : cel f x y with
  | false =>
    rw [if_neg (by rw [hc]; decide)] at hQ
    exact ⟨fun h => absurd rfl h, fun _ => hQ⟩
  | true =>
    rw [if_pos hc] at hQ
    have hin := cel_in hc
    obtain ⟨a, ha⟩ : ∃ a : Nat, x = a := ⟨x.toNat, by omega⟩
    obtain ⟨b, hb⟩ : ∃ b : Nat, y = b := ⟨y.toNat, by omega⟩
    have h0 : 0 < sd f (12 * b + a) 25 := (sd_cel (by omega) (by omega)).mpr (by rw [← ha, ← hb]; exact hc)
    have hH := sd_h (f := f) (c := 12 * b + a) (by omega) h0
    have hle := sd_le f (12 * b + a) 25
    rw [show (12 * y + x).toNat = 12 * b + a by omega] at hQ
    unfold fcC at hQ
    rw [if_pos (by omega)] at hQ
    have ex : 2 * smx (12 * b + a) + 1 = 8 * x + 1 := by unfold smx; omega
    have ey : 2 * smy (12 * b + a) + 1 = 8 * y + 3 := by unfold smy; omega
    rw [ex, ey] at hQ hH
    refine ⟨fun _ => ⟨⟨by omega, by omega⟩, fun x3 e3 => ⟨⟨by omega, by omega⟩, fun x4 e4 => ?_⟩⟩, fun h => absurd h (by decide)⟩
    refine c1043 hf hR (by omega) (by omega) fun h hh => ?_
    rw [e3, e4] at hh
    have eh : h = 2 * (sd f (12 * b + a) 25 : Int) - 1 := hh.un hH
    rw [← e3, ← e4, ← eh] at hQ
    have hb1 : 1 ≤ h ∧ h ≤ 49 := by omega
    have key : ∀ (s e : Nat), e + s = vE (lay f 1) → (∀ e', e' < e → fB (lay f 1) x3 x4 h e' = false) → L_1044_38 x y x3 x4 h (e : Int) M Q := by
      intro s
      induction s with
      | zero =>
        intro e he hn
        have h34 := hE.1
        refine s_1044_38 ⟨fun _ => ?_, fun h => by omega⟩
        have : fcV (lay f 1) x3 x4 h = -1 := by
          unfold fcV
          rcases fsE_s (fB (lay f 1) x3 x4 h) (vE (lay f 1)) with ⟨h1, -⟩ | ⟨e', h1, h2, h3, h4⟩
          · exact h1
          · rw [hn e' (by omega)] at h3; cases h3
        rw [this] at hQ
        exact hQ
      | succ s ih =>
        intro e he hn
        have h34 := hE.1
        have heT : e < vE (lay f 1) := by omega
        obtain ⟨a1, a2, a3, a4⟩ := hE.2 e heT
        have bd : Dir (xD (lay f 1) e) ∧ (0 ≤ xL (lay f 1) e ∧ xL (lay f 1) e ≤ 12) ∧ (0 ≤ xA (lay f 1) e ∧ xA (lay f 1) e ≤ 12) ∧ 0 ≤ xB (lay f 1) e ∧ xB (lay f 1) e ≤ 12 := hg.2 e heT
        have hpos := edge_pos hv heT
        have hd := bd.1
        unfold Dir at hd
        have no : fB (lay f 1) x3 x4 h e = false → L_1044_38 x y x3 x4 h ((e : Int) + 1) M Q := fun hno => ih (e + 1) (by omega) fun e' he' => by
          by_cases k : e' = e
          · rw [k]; exact hno
          · exact hn e' (by omega)
        have hdef : fB (lay f 1) x3 x4 h e = decide (8 * xL (lay f 1) e = lnF x3 x4 h (xD (lay f 1) e) ∧ alF x3 x4 (xD (lay f 1) e) - h < 8 * xB (lay f 1) e ∧ 8 * xA (lay f 1) e < alF x3 x4 (xD (lay f 1) e) + h) := rfl
        refine s_1044_38 ⟨fun h => by omega, fun _ => ⟨by omega, fun x7 e7 => ?_⟩⟩
        rw [Int.toNat_natCast, a1] at e7
        rw [Int.toNat_natCast, a2, a3, a4]
        refine ⟨by omega, fun d ed z ez => ⟨by omega, fun d1 ed1 z1 ez1 => ?_⟩⟩
        rw [tmod_p (by omega)] at ed ed1
        have hz : z = if levV x7 = 0 then x3 else x4 := by
          rw [ez]; unfold levV
          split <;> split <;> first | rfl | (exfalso; omega)
        have hz1 : z1 = alF x3 x4 x7 := by
          rw [ez1]; unfold alF levV
          split <;> split <;> first | rfl | (exfalso; omega)
        have bz : 1 ≤ z ∧ z ≤ 96 := by rw [hz]; split <;> omega
        have bz1 : 1 ≤ z1 ∧ z1 ≤ 96 := by rw [ez1]; split <;> omega
        refine ⟨fun _ => by omega, fun _ => by omega, fun z2 ez2 => ?_⟩
        have hz2 : z2 = lnF x3 x4 h x7 := by
          rw [ez2, hz]; unfold lnF upV upW
          split <;> split <;> first | rfl | omega
        refine ⟨⟨by omega, by omega⟩, fun heq => ⟨⟨by omega, by omega, by omega⟩, fun _ => ⟨by omega, by omega⟩, fun _ => by omega, fun z3 ez3 => ⟨⟨by omega, by omega, by omega⟩, fun _ => ⟨by omega, by omega⟩, fun _ => by omega, fun z4 ez4 => ⟨fun hle => ⟨by omega, no ?_⟩, fun hlt => ?_⟩⟩⟩, fun hne => ⟨by omega, no ?_⟩⟩
        · rw [hdef, ← e7, ← hz2, ← hz1]
          refine decide_eq_false fun k => ?_
          obtain ⟨-, k2, k3⟩ := k
          split at ez3 <;> split at ez4 <;> omega
        · have hyes : fB (lay f 1) x3 x4 h e = true := by
            rw [hdef, ← e7, ← hz2, ← hz1]
            refine decide_eq_true ⟨heq.symm, ?_, ?_⟩
            · split at ez3 <;> split at ez4 <;> omega
            · split at ez3 <;> split at ez4 <;> omega
          have : fcV (lay f 1) x3 x4 h = (e : Int) := by
            unfold fcV
            rcases fsE_s (fB (lay f 1) x3 x4 h) (vE (lay f 1)) with ⟨h1, h2⟩ | ⟨e', h1, h2, h3, h4⟩
            · rw [h2 e heT] at hyes; cases hyes
            · rw [h2]
              rcases Nat.lt_trichotomy e e' with k | k | k
              · rw [h4 e k] at hyes; cases hyes
              · rw [k]
              · rw [hn e' k] at h3; cases h3
          rw [this] at hQ
          exact hQ
        · rw [hdef, ← e7, ← hz2, ← hz1]
          exact decide_eq_false fun k => hne k.1.symm
    exact key (vE (lay f 1)) 0 (by omega) fun e' h => absurd h (Nat.not_lt_zero e')

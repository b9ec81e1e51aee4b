/-! edges -/
def eD (P : Int → Int → Bool) (xs ys : Nat → Int) (i : Nat) : Int := lvd P (xs i) (ys i)
def eL (P : Int → Int → Bool) (xs ys : Nat → Int) (i : Nat) : Int := (linS (eD P xs ys i) (xs i) (ys i) + 1) / 4
def eLo (P : Int → Int → Bool) (xs ys : Nat → Int) (ln : Nat → Nat) (i : Nat) : Int := (loS (eD P xs ys i) (xs i) (ys i) (ln i) + 1) / 4
def eHi (P : Int → Int → Bool) (xs ys : Nat → Int) (ln : Nat → Nat) (i : Nat) : Int := (hiS (eD P xs ys i) (xs i) (ys i) (ln i) + 1) / 4
/-- on which lines sides lie -/
theorem ed_line {f : Nat → Int} {k : Nat} {x y d : Int} (h : Ed (lay f (2 * k + 1)) x y d) : ((d = 0 ∨ d = 3) → (linS d x y - 2 * k) % 4 = 1) ∧ ((d = 1 ∨ d = 2) → (linS d x y - 2 * k) % 4 = 3) := by
  rcases h with ⟨rfl, h1, h2⟩ | ⟨rfl, h1, h2⟩ | ⟨rfl, h1, h2⟩ | ⟨rfl, h1, h2⟩
  · refine ⟨fun _ => ?_, fun g => by omega⟩
    show (y - 2 * k) % 4 = 1
    refine Classical.byContradiction fun hn => ?_
    have : lay f (2 * k + 1) x (y - 1) = true := pk_w.mpr fun u v u1 u2 v1 v2 => pk_w.mp h1 u v u1 u2 (by omega) (by omega)
    rw [this] at h2
    cases h2
  · refine ⟨fun g => by omega, fun _ => ?_⟩
    show (x - 2 * k) % 4 = 3
    refine Classical.byContradiction fun hn => ?_
    have : lay f (2 * k + 1) x y = true := pk_w.mpr fun u v u1 u2 v1 v2 => pk_w.mp h1 u v (by omega) (by omega) v1 v2
    rw [this] at h2
    cases h2
  · refine ⟨fun g => by omega, fun _ => ?_⟩
    show (y - 2 * k) % 4 = 3
    refine Classical.byContradiction fun hn => ?_
    have : lay f (2 * k + 1) (x - 1) y = true := pk_w.mpr fun u v u1 u2 v1 v2 => pk_w.mp h1 u v u1 u2 (by omega) (by omega)
    rw [this] at h2
    cases h2
  · refine ⟨fun _ => ?_, fun g => by omega⟩
    show (x - 2 * k) % 4 = 1
    refine Classical.byContradiction fun hn => ?_
    have : lay f (2 * k + 1) (x - 1) (y - 1) = true := pk_w.mpr fun u v u1 u2 v1 v2 => pk_w.mp h1 u v (by omega) (by omega) v1 v2
    rw [this] at h2
    cases h2
/-- the measures of a side -/
theorem side_rng {P : Int → Int → Bool} (hg : InG P) (hD : NoD P) {x y : Int} {n : Nat} (hb : bn P x y = true) (hN : RunN P x y (lvd P x y) n) : (0 ≤ linS (lvd P x y) x y ∧ linS (lvd P x y) x y ≤ 48) ∧ 0 ≤ loS (lvd P x y) x y n ∧ hiS (lvd P x y) x y n ≤ 48 ∧ 0 < n ∧ n ≤ 48 ∧ hiS (lvd P x y) x y n - loS (lvd P x y) x y n = n := by
  have hi := bn_in hg hb
  have he := bn_lv hD hb
  obtain ⟨h48, hin⟩ := hN.inn hg hD he
  have h1 := hin n (Nat.le_refl n)
  have h0 := hN.1
  refine ⟨?_, ?_, ?_, h0, h48, hi_lo _ _ _ _⟩
  · unfold linS
    split <;> omega
  · unfold loS risS algS levV
    rcases step_cases he.dir with ⟨e, a, b⟩ | ⟨e, a, b⟩ | ⟨e, a, b⟩ | ⟨e, a, b⟩ <;> rw [a, b] at h1 <;> rw [e] <;> simp <;> omega
  · unfold hiS risS algS levV
    rcases step_cases he.dir with ⟨e, a, b⟩ | ⟨e, a, b⟩ | ⟨e, a, b⟩ | ⟨e, a, b⟩ <;> rw [a, b] at h1 <;> rw [e] <;> simp <;> omega
/-- the reference's edges -/
def EdM (M : Mm) (T : Nat) (P : Int → Int → Bool) (xs ys : Nat → Int) (ln : Nat → Nat) : Prop := ∀ i, i < T → M.1 1135 0 i = eD P xs ys i ∧ M.1 1136 0 i = eL P xs ys i ∧ M.1 1137 0 i = eLo P xs ys ln i ∧ M.1 1138 0 i = eHi P xs ys ln i
def T1042 (t j : Nat) : Prop := (t = 10 ∨ t = 1135 ∨ t = 1136 ∨ t = 1137 ∨ t = 1138 ∨ t = 1139) ∧ j = 0
theorem c1042 {f : Nat → Int} {N n : Nat} {st : Nat → Nat} {xs ys : Nat → Int} {ln : Nat → Nat} {M : Mm} {Q : Mm → Prop} (h18 : M.1 10 0 18 = N) (hN : 0 < N) (hct : Ct (lay f 1) n st xs ys) (hln : LN (lay f 1) (st n) xs ys ln) (hM : MdP M 0 n st xs ys)
    (hQ : ∀ M', Fx T1042 M M' → M'.1 10 0 34 = st n → (∀ q, (q < 30 ∨ 34 < q) → M'.1 10 0 q = M.1 10 0 q) → EdM M' (st n) (lay f 1) xs ys ln → (∀ c i, c < n → st c ≤ i → i < st (c + 1) → M'.1 1139 0 i = c) → Q M') : E_1042 M Q := by
  have hg := lay_g f 1
  have hD : NoD (lay f 1) := pk_nod f 0
  have hT : st n ≤ 312 := Ct.le (f := f) (k := 0) hct
  have hn : n ≤ 78 := Ct.n78 (f := f) (k := 0) hct
  have hline : ∀ i, i < st n → ((eD (lay f 1) xs ys i = 0 ∨ eD (lay f 1) xs ys i = 3) → linS (eD (lay f 1) xs ys i) (xs i) (ys i) % 4 = 1) ∧ ((eD (lay f 1) xs ys i = 1 ∨ eD (lay f 1) xs ys i = 2) → linS (eD (lay f 1) xs ys i) (xs i) (ys i) % 4 = 3) := fun i hi => by
    have := ed_line (f := f) (k := 0) (bn_lv hD (hct.bend hi))
    rw [show 2 * ((0 : Nat) : Int) = 0 from rfl] at this
    rw [Int.sub_zero] at this
    exact this
  generalize hP : lay f 1 = P at *
  refine s_1042_0 fun M1 e1 => ?_
  have g1 : Fx T1042 M M1 := by rw [e1]; exact Fx.setI ⟨by simp, rfl⟩
  -- the state with T edges
  have St : ∃ St : Nat → Mm → Prop, ∀ T M', St T M' ↔ (Fx T1042 M M' ∧ M'.1 10 0 34 = T ∧ (∀ q, (q < 30 ∨ 34 < q) → M'.1 10 0 q = M.1 10 0 q) ∧ EdM M' T P xs ys ln ∧ ∀ c i, c < n → st c ≤ i → i < st (c + 1) → i < T → M'.1 1139 0 i = c) := ⟨_, fun _ _ => Iff.rfl⟩
  obtain ⟨St, hSt⟩ := St
  have outer : ∀ (s c : Nat) (M' : Mm), c + s = n → St (st c) M' → L_1042_7 (c : Int) M' Q := by
    intro s
    induction s with
    | zero =>
      intro c M2 hc h
      have e : c = n := by omega
      subst e
      obtain ⟨a1, a2, a3, a4, a5⟩ := (hSt _ _).mp h
      have q18 : M2.1 10 0 18 = N := by rw [a3 18 (by omega), h18]
      have q24 : M2.1 1124 0 0 = c := by rw [(a1 1124 0 (by simp [T1042])).1]; exact hM.1
      refine s_1042_7 ⟨fun g => by omega, fun _ => ⟨fun _ => hQ M2 a1 a2 a3 a4 fun c' i h1 h2 h3 => a5 c' i h1 h2 h3 (by have := hct.mono (c := c' + 1) (d := c) (by omega) (Nat.le_refl c); omega), fun g => by omega⟩⟩
    | succ s ih =>
      intro c M2 hc h
      have hcn : c < n := by omega
      have m0 := (hct.2.1 c hcn).1
      have m1 := hct.mono (c := c + 1) (d := n) (by omega) (Nat.le_refl n)
      have hb := (hSt _ _).mp h
      have q18 : M2.1 10 0 18 = N := by rw [hb.2.2.1 18 (by omega), h18]
      have q24 : M2.1 1124 0 0 = n := by rw [(hb.1 1124 0 (by simp [T1042])).1]; exact hM.1
      refine s_1042_7 ⟨fun g => by omega, fun _ => ⟨fun g => by omega, fun _ => ?_⟩⟩
      have inner : ∀ (u i : Nat) (M' : Mm), st c + i + u = st (c + 1) → St (st c + i) M' → L_1042_26 (c : Int) (i : Int) M' Q := by
        intro u
        induction u with
        | zero =>
          intro i M3 hi h3
          obtain ⟨a1, a2, a3, a4, a5⟩ := (hSt _ _).mp h3
          have hMd : MdP M3 0 n st xs ys := hM.fx ⟨(a1 1124 0 (by simp [T1042])).1, (a1 1125 0 (by simp [T1042])).1, (a1 1127 0 (by simp [T1042])).1, (a1 1128 0 (by simp [T1042])).1⟩
          have v1 : szV (M3.1 1125 0) 0 (c : Int) = ((st (c + 1) - st c : Nat) : Int) := by
            unfold szV stV
            rw [show (161 * (0 : Int) + (c : Int)).toNat = 161 * 0 + c by omega, show (161 * (0 : Int) + ((c : Int) + 1)).toNat = 161 * 0 + (c + 1) by omega, hMd.2.1 c (by omega), hMd.2.1 (c + 1) (by omega)]
            omega
          refine s_1042_26 ⟨⟨by omega, by omega, by omega, by omega, by rw [v1]; unfold inR; omega⟩, fun _ => ⟨by omega, ih (c + 1) M3 (by omega) (by rw [← hi]; exact h3)⟩, fun g => by rw [v1] at g; omega⟩
        | succ u ihu =>
          intro i M3 hi h3
          obtain ⟨a1, a2, a3, a4, a5⟩ := (hSt _ _).mp h3
          have hMd : MdP M3 0 n st xs ys := hM.fx ⟨(a1 1124 0 (by simp [T1042])).1, (a1 1125 0 (by simp [T1042])).1, (a1 1127 0 (by simp [T1042])).1, (a1 1128 0 (by simp [T1042])).1⟩
          have v1 : szV (M3.1 1125 0) 0 (c : Int) = ((st (c + 1) - st c : Nat) : Int) := by
            unfold szV stV
            rw [show (161 * (0 : Int) + (c : Int)).toNat = 161 * 0 + c by omega, show (161 * (0 : Int) + ((c : Int) + 1)).toNat = 161 * 0 + (c + 1) by omega, hMd.2.1 c (by omega), hMd.2.1 (c + 1) (by omega)]
            omega
          have hj : st c + i < st n := by omega
          have hrng := side_rng hg hD (hct.bend hj) (hln _ hj)
          have hlj := hline _ hj
          refine s_1042_26 ⟨⟨by omega, by omega, by omega, by omega, by rw [v1]; unfold inR; omega⟩, fun g => by rw [v1] at g; omega, fun _ => ?_⟩
          refine c1039 (p := 0) (by omega) hD hct hln hcn hn hT hMd (by omega) fun M4 f4 k30 k31 k32 k33 ko => ?_
          have k34 : M4.1 10 0 34 = (st c + i : Nat) := by rw [ko 34 (by omega), a2]
          rw [k34, Int.toNat_natCast]
          refine ⟨by omega, fun M5 e5 => ?_⟩
          have f5 : M5.1 10 0 = M4.1 10 0 := by rw [e5, setI_ne (by omega)]
          rw [f5, k30, k31, k34, Int.toNat_natCast]
          -- the rest, for the line as it is found
          have rest : ∀ (l : Int) (M6 : Mm), l = eL P xs ys (st c + i) → M6 = setI M5 1136 0 (st c + i) l → (-2147483648 ≤ (M6.1 10 0 32) + 1 ∧ (M6.1 10 0 32) + 1 ≤ 2147483647) ∧ (∀ d_1 : Int, d_1 = Int.tdiv ((M6.1 10 0 32) + 1) 4 → ((0 ≤ M6.1 10 0 34 ∧ M6.1 10 0 34 < 640) ∧ (∀ M7 : Mm, M7 = setI M6 1137 0 ((M6.1 10 0 34).toNat) d_1 → ((-2147483648 ≤ (M7.1 10 0 33) + 1 ∧ (M7.1 10 0 33) + 1 ≤ 2147483647) ∧ (∀ d_2 : Int, d_2 = Int.tdiv ((M7.1 10 0 33) + 1) 4 → ((0 ≤ M7.1 10 0 34 ∧ M7.1 10 0 34 < 640) ∧ (∀ M8 : Mm, M8 = setI M7 1138 0 ((M7.1 10 0 34).toNat) d_2 → ((0 ≤ M8.1 10 0 34 ∧ M8.1 10 0 34 < 640) ∧ (∀ M9 : Mm, M9 = setI M8 1139 0 ((M8.1 10 0 34).toNat) (c : Int) → ((-2147483648 ≤ (M9.1 10 0 34) + 1 ∧ (M9.1 10 0 34) + 1 ≤ 2147483647) ∧ (∀ M10 : Mm, M10 = setI M9 10 0 34 ((M9.1 10 0 34) + 1) → ((-2147483648 ≤ (i : Int) + 1 ∧ (i : Int) + 1 ≤ 2147483647) ∧ L_1042_26 (c : Int) ((i : Int) + 1) M10 Q))))))))))))  := by
            intro l M6 hl e6
            have f6 : M6.1 10 0 = M4.1 10 0 := by rw [e6, setI_ne (by omega), f5]
            rw [f6, k32, k34, Int.toNat_natCast]
            refine ⟨by omega, fun d1 ed1 => ⟨by omega, fun M7 e7 => ?_⟩⟩
            have f7 : M7.1 10 0 = M4.1 10 0 := by rw [e7, setI_ne (by omega), f6]
            rw [f7, k33, k34, Int.toNat_natCast]
            refine ⟨by omega, fun d2 ed2 => ⟨by omega, fun M8 e8 => ?_⟩⟩
            have f8 : M8.1 10 0 = M4.1 10 0 := by rw [e8, setI_ne (by omega), f7]
            rw [f8, k34, Int.toNat_natCast]
            refine ⟨by omega, fun M9 e9 => ?_⟩
            have f9 : M9.1 10 0 = M4.1 10 0 := by rw [e9, setI_ne (by omega), f8]
            rw [f9, k34]
            refine ⟨by omega, fun M10 e10 => ⟨by omega, ihu (i + 1) M10 (by omega) ((hSt _ _).mpr ⟨?_, ?_, fun q hq => ?_, fun j hj2 => ?_, fun c' j h1 h2 h3' h4 => ?_⟩)⟩⟩
            · refine a1.tr ((f4.up fun t j g => ⟨by simp [g.1], g.2⟩).tr ?_)
              rw [e10, e9, e8, e7, e6, e5]
              exact (((((Fx.setI ⟨by simp, rfl⟩).tr (Fx.setI ⟨by simp, rfl⟩)).tr (Fx.setI ⟨by simp, rfl⟩)).tr (Fx.setI ⟨by simp, rfl⟩)).tr (Fx.setI ⟨by simp, rfl⟩)).tr (Fx.setI ⟨by simp, rfl⟩)
            · rw [e10, setI_at, ups_at]; omega
            · rw [e10, setI_at, ups_ne (by omega), f9, ko q (by omega)]
              exact a3 q hq
            · have x35 : M10.1 1135 0 = ups (M3.1 1135 0) (st c + i) (lvd P (xs (st c + i)) (ys (st c + i))) := by rw [e10, setI_ne (by omega), e9, setI_ne (by omega), e8, setI_ne (by omega), e7, setI_ne (by omega), e6, setI_ne (by omega), e5, setI_at, (f4 1135 0 (by simp)).1, k30]
              have x36 : M10.1 1136 0 = ups (M3.1 1136 0) (st c + i) l := by rw [e10, setI_ne (by omega), e9, setI_ne (by omega), e8, setI_ne (by omega), e7, setI_ne (by omega), e6, setI_at, e5, setI_ne (by omega), (f4 1136 0 (by simp)).1]
              have x37 : M10.1 1137 0 = ups (M3.1 1137 0) (st c + i) d1 := by rw [e10, setI_ne (by omega), e9, setI_ne (by omega), e8, setI_ne (by omega), e7, setI_at, e6, setI_ne (by omega), e5, setI_ne (by omega), (f4 1137 0 (by simp)).1]
              have x38 : M10.1 1138 0 = ups (M3.1 1138 0) (st c + i) d2 := by rw [e10, setI_ne (by omega), e9, setI_ne (by omega), e8, setI_at, e7, setI_ne (by omega), e6, setI_ne (by omega), e5, setI_ne (by omega), (f4 1138 0 (by simp)).1]
              rw [x35, x36, x37, x38]
              by_cases e : j = st c + i
              · subst e
                rw [ups_at, ups_at, ups_at, ups_at, hl, ed1, ed2, tdiv_p (by omega), tdiv_p (by omega)]
                exact ⟨rfl, rfl, rfl, rfl⟩
              · rw [ups_ne e, ups_ne e, ups_ne e, ups_ne e]
                exact a4 j (by omega)
            · have x39 : M10.1 1139 0 = ups (M3.1 1139 0) (st c + i) c := by rw [e10, setI_ne (by omega), e9, setI_at, e8, setI_ne (by omega), e7, setI_ne (by omega), e6, setI_ne (by omega), e5, setI_ne (by omega), (f4 1139 0 (by simp)).1]
              rw [x39]
              by_cases e : j = st c + i
              · subst e
                rw [ups_at]
                have : c' = c := by
                  rcases Nat.lt_trichotomy c' c with q | q | q
                  · have := hct.mono (c := c' + 1) (d := c) (by omega) (by omega); omega
                  · exact q
                  · have := hct.mono (c := c + 1) (d := c') (by omega) (by omega); omega
                rw [this]
              · rw [ups_ne e]
                exact a5 c' j h1 h2 h3' (by omega)
          have hdir := (bn_lv hD (hct.bend hj)).dir
          have hup : upW (lvd P (xs (st c + i)) (ys (st c + i))) = if (lvd P (xs (st c + i)) (ys (st c + i)) = 0 ∨ lvd P (xs (st c + i)) (ys (st c + i)) = 3) then 1 else 0 := rfl
          refine ⟨fun hz => ⟨by omega, fun d ed => ⟨by omega, fun M6 e6 => rest d M6 ?_ e6⟩⟩, fun hz => ⟨by omega, fun d ed => ⟨by omega, fun M6 e6 => rest d M6 ?_ e6⟩⟩⟩
          · rw [ed, tdiv_p (by omega)]
            rfl
          · have h03 : lvd P (xs (st c + i)) (ys (st c + i)) = 0 ∨ lvd P (xs (st c + i)) (ys (st c + i)) = 3 := by
              rw [hup] at hz
              split at hz
              · next h => exact h
              · exact absurd rfl hz
            have h4 : linS (lvd P (xs (st c + i)) (ys (st c + i))) (xs (st c + i)) (ys (st c + i)) % 4 = 1 := hlj.1 h03
            rw [ed, tdiv_p (by omega)]
            show _ = (linS (lvd P (xs (st c + i)) (ys (st c + i))) (xs (st c + i)) (ys (st c + i)) + 1) / 4
            omega
      exact inner (st (c + 1) - st c) 0 M2 (by omega) (by rw [Nat.add_zero]; exact h)
  refine outer n 0 M1 (by omega) ((hSt _ _).mpr ⟨g1, by rw [e1, setI_at, ups_at, hct.1]; rfl, fun q hq => by rw [e1, setI_at, ups_ne (by omega)], fun i hi => by rw [hct.1] at hi; exact absurd hi (Nat.not_lt_zero i), fun c i _ _ _ h => by rw [hct.1] at h; exact absurd h (Nat.not_lt_zero i)⟩)
/-- no phase, no edge -/
theorem c1042n {M : Mm} {Q : Mm → Prop} (h18 : M.1 10 0 18 = 0) (hQ : ∀ M', Fx (fun t j => t = 10 ∧ j = 0) M M' → M'.1 10 0 34 = 0 → (∀ q, q ≠ 34 → M'.1 10 0 q = M.1 10 0 q) → Q M') : E_1042 M Q := by
  refine s_1042_0 fun M1 e1 => s_1042_7 ⟨fun _ => hQ M1 (by rw [e1]; exact Fx.setI ⟨rfl, rfl⟩) (by rw [e1, setI_at, ups_at]) (fun q hq => by rw [e1, setI_at, ups_ne hq]), fun g => ?_⟩
  rw [e1, setI_at, ups_ne (by omega), h18] at g
  omega

/-! the reference's components -/
theorem isV_P {g : Nat → Int64} {p : Nat} {P : Int → Int → Bool} (hg : InG P) (hR : ∀ y, y < 48 → ∀ x : Nat, bJ (g (48 * p + y)) x = (decide (x < 48) && P x y)) (x y : Int) : isV g (p : Int) x y = b2i (P x y) := by
  unfold isV
  by_cases h : 0 ≤ x ∧ x ≤ 47 ∧ 0 ≤ y ∧ y ≤ 47
  · rw [if_pos h]
    obtain ⟨a, rfl⟩ : ∃ n : Nat, x = n := ⟨x.toNat, by omega⟩
    obtain ⟨b, rfl⟩ : ∃ n : Nat, y = n := ⟨y.toNat, by omega⟩
    rw [show (48 * (p : Int) + (b : Int)).toNat = 48 * p + b by omega]
    have h63 : bJ (g (48 * p + b)) 63 = false := by rw [hR b (by omega), decide_eq_false (by omega), Bool.false_and]
    rw [bit_j (by omega) h63, hR b (by omega), decide_eq_true (by omega), Bool.true_and]
    cases hp : P a b with
    | true => rw [if_pos rfl, if_pos (lcm_e rfl)]; rfl
    | false => rw [if_neg (by decide)]; rfl
  · rw [if_neg h]
    cases hp : P x y with
    | false => rfl
    | true => exact absurd (hg x y hp) (by omega)
def dX (d : Nat) : Int := if (d : Int) ≠ 0 then (if (d : Int) ≠ 2 then 0 else (-1)) else 1
def dY (d : Nat) : Int := if (d : Int) ≠ 1 then (if (d : Int) ≠ 3 then 0 else (-1)) else 1
theorem dX_0 : dX 0 = 1 := rfl
theorem dX_1 : dX 1 = 0 := rfl
theorem dX_2 : dX 2 = -1 := rfl
theorem dX_3 : dX 3 = 0 := rfl
theorem dY_0 : dY 0 = 0 := rfl
theorem dY_1 : dY 1 = 1 := rfl
theorem dY_2 : dY 2 = 0 := rfl
theorem dY_3 : dY 3 = -1 := rfl
theorem dXY (d : Nat) (h : d < 4) : (dX d = 1 ∧ dY d = 0) ∨ (dX d = -1 ∧ dY d = 0) ∨ (dX d = 0 ∧ dY d = 1) ∨ (dX d = 0 ∧ dY d = -1) := by
  have : d = 0 ∨ d = 1 ∨ d = 2 ∨ d = 3 := by omega
  rcases this with rfl | rfl | rfl | rfl
  · exact Or.inl ⟨rfl, rfl⟩
  · exact Or.inr (Or.inr (Or.inl ⟨rfl, rfl⟩))
  · exact Or.inr (Or.inl ⟨rfl, rfl⟩)
  · exact Or.inr (Or.inr (Or.inr ⟨rfl, rfl⟩))
theorem ad_d {x y : Nat} (h : ad x y) : ∃ d, d < 4 ∧ ((y % 48 : Nat) : Int) = ((x % 48 : Nat) : Int) + dX d ∧ ((y / 48 : Nat) : Int) = ((x / 48 : Nat) : Int) + dY d := by
  obtain ⟨h1, h2, h3⟩ := h
  rcases h3 with ⟨h3, h4 | h4⟩ | ⟨h3, h4 | h4⟩
  · exact ⟨0, by omega, by rw [dX_0]; omega, by rw [dY_0]; omega⟩
  · exact ⟨2, by omega, by rw [dX_2]; omega, by rw [dY_2]; omega⟩
  · exact ⟨1, by omega, by rw [dX_1]; omega, by rw [dY_1]; omega⟩
  · exact ⟨3, by omega, by rw [dX_3]; omega, by rw [dY_3]; omega⟩
theorem d_ad {x y d : Nat} (hd : d < 4) (hx : x < 2304) (hy : y < 2304) (h1 : ((y % 48 : Nat) : Int) = ((x % 48 : Nat) : Int) + dX d) (h2 : ((y / 48 : Nat) : Int) = ((x / 48 : Nat) : Int) + dY d) : ad x y := by
  refine ⟨hx, hy, ?_⟩
  rcases dXY d hd with ⟨a, b⟩ | ⟨a, b⟩ | ⟨a, b⟩ | ⟨a, b⟩ <;> rw [a] at h1 <;> rw [b] at h2 <;> omega
theorem c1030 {p q n : Nat} {P : Int → Int → Bool} {M : Mm} {Q : Mm → Prop} (hp : p < 12) (hq : q < 2304) (hg : InG P) (hR : ∀ y, y < 48 → ∀ x : Nat, bJ (M.2 1116 0 (48 * p + y)) x = (decide (x < 48) && P x y)) (hP : cp P q) (h0 : M.1 1119 0 (2304 * p + q) < 0) (hN : ∀ x, x < 2304 → Cn (cp P) ad q x → M.1 1119 0 (2304 * p + x) < 0) (hQ : ∀ M', Fx (fun t j => (t = 1119 ∨ t = 1123) ∧ j = 0) M M' → (∀ x, x < 2304 → Cn (cp P) ad q x → M'.1 1119 0 (2304 * p + x) = n) → (∀ x, x < 2304 → ¬ Cn (cp P) ad q x → M'.1 1119 0 (2304 * p + x) = M.1 1119 0 (2304 * p + x)) → (∀ r, (r < 2304 * p ∨ 2304 * p + 2304 ≤ r) → M'.1 1119 0 r = M.1 1119 0 r) → Q M') : E_1030 (p : Int) (q : Int) (n : Int) M Q := by
  refine s_1030_0 fun M1 e1 => ⟨by omega, fun M2 e2 => ?_⟩
  rw [show (2304 * (p : Int) + (q : Int)).toNat = 2304 * p + q by omega] at e2
  have f2 : Fx (fun t j => (t = 1119 ∨ t = 1123) ∧ j = 0) M M2 := by
    rw [e2, e1]
    exact (Fx.setI ⟨Or.inr rfl, rfl⟩).tr (Fx.setI ⟨Or.inl rfl, rfl⟩)
  have w2 : M2.1 1123 0 = ups (M.1 1123 0) 0 q := by rw [e2, setI_ne (by omega), e1, setI_at]
  have l2 : M2.1 1119 0 = ups (M.1 1119 0) (2304 * p + q) n := by rw [e2, setI_at, e1, setI_ne (by omega)]
  have b2 : Bf 2304 (cp P) ad (fun x => M.1 1119 0 (2304 * p + x)) q n (fun x => M2.1 1119 0 (2304 * p + x)) (M2.1 1123 0) 0 1 := by
    refine Bf.z hq hP h0 ?_ (fun x hx hne => ?_) ?_
    · show M2.1 1119 0 (2304 * p + q) = n
      rw [l2, ups_at]
    · show M2.1 1119 0 (2304 * p + x) = _
      rw [l2, ups_ne (by omega)]
    · rw [w2, ups_at]
  have o2 : ∀ r, (r < 2304 * p ∨ 2304 * p + 2304 ≤ r) → M2.1 1119 0 r = M.1 1119 0 r := by
    intro r hr
    rw [l2, ups_ne (by omega)]
  have key : ∀ (r head tail : Nat) (M' : Mm), head + r = 2304 → Fx (fun t j => (t = 1119 ∨ t = 1123) ∧ j = 0) M M' → Bf 2304 (cp P) ad (fun x => M.1 1119 0 (2304 * p + x)) q n (fun x => M'.1 1119 0 (2304 * p + x)) (M'.1 1123 0) head tail → (∀ r, (r < 2304 * p ∨ 2304 * p + 2304 ≤ r) → M'.1 1119 0 r = M.1 1119 0 r) → L_1030_26 (p : Int) (q : Int) (n : Int) (head : Int) (tail : Int) M' Q := by
    intro r
    induction r with
    | zero =>
      intro head tail M3 hh g1 g2 g3
      have ht := g2.tl
      have hht := g2.2.2.2.2.2
      have e : head = tail := by omega
      subst e
      obtain ⟨k1, k2⟩ := Bf.fin ad_bd hN g2
      exact s_1030_26 ⟨fun _ => hQ M3 g1 k1 k2 g3, fun g => by omega⟩
    | succ r ih =>
      intro head tail M3 hh g1 g2 g3
      refine s_1030_26 ⟨fun hle => ?_, fun hlt => ?_⟩
      · have hht := g2.2.2.2.2.2
        have e : head = tail := by omega
        subst e
        obtain ⟨k1, k2⟩ := Bf.fin ad_bd hN g2
        exact hQ M3 g1 k1 k2 g3
      · have ht := g2.tl
        obtain ⟨x, hx1, hx2, hx3, hx4, hx5⟩ := g2.2.1 head (by omega)
        refine ⟨by omega, fun v ev => ⟨by omega, ?_⟩⟩
        rw [Int.toNat_natCast, hx1] at ev
        rw [ev]
        have inner : ∀ (s d tail : Nat) (M' : Mm), d + s = 4 → head < tail → Fx (fun t j => (t = 1119 ∨ t = 1123) ∧ j = 0) M M' → Bf 2304 (cp P) ad (fun x => M.1 1119 0 (2304 * p + x)) q n (fun x => M'.1 1119 0 (2304 * p + x)) (M'.1 1123 0) head tail → M'.1 1123 0 head = x → (∀ r, (r < 2304 * p ∨ 2304 * p + 2304 ≤ r) → M'.1 1119 0 r = M.1 1119 0 r) → (∀ d', d' < d → ∀ y : Nat, y < 2304 → ((y % 48 : Nat) : Int) = ((x % 48 : Nat) : Int) + dX d' → ((y / 48 : Nat) : Int) = ((x / 48 : Nat) : Int) + dY d' → cp P y → 0 ≤ M'.1 1119 0 (2304 * p + y)) → L_1030_48 (p : Int) (q : Int) (n : Int) ((head : Int) + 1) (tail : Int) (x : Int) (d : Int) M' Q := by
          intro s
          induction s with
          | zero =>
            intro d tail M4 hd hlt2 k1 k2 k3 k4 k5
            refine s_1030_48 ⟨fun _ => ?_, fun g => by omega⟩
            refine ih (head + 1) tail M4 (by omega) k1 (k2.next hlt2 k3 fun y hy hpy hyN => ?_) k4
            obtain ⟨d', d1, d2, d3⟩ := ad_d hy
            exact k5 d' (by omega) y hyN d2 d3 hpy
          | succ s ih2 =>
            intro d tail M4 hd hlt2 k1 k2 k3 k4 k5
            have ht4 := k2.tl
            refine s_1030_48 ⟨fun g => by omega, fun _ => ⟨by omega, fun m em b eb => ?_⟩⟩
            rw [tmod_p (by omega)] at em
            have eb' : b = dX d := eb
            have hdd := dXY d (by omega)
            refine ⟨by omega, fun x8 e8 => ⟨by omega, fun m1 em1 b1 eb1 => ?_⟩⟩
            rw [tdiv_p (by omega)] at em1
            have eb1' : b1 = dY d := eb1
            refine ⟨by omega, fun x9 e9 => ⟨by omega, ?_⟩⟩
            have hR4 : ∀ y, y < 48 → ∀ x : Nat, bJ (M4.2 1116 0 (48 * p + y)) x = (decide (x < 48) && P x y) := by
              intro y hy x
              rw [(k1 1116 0 (by simp)).2]
              exact hR y hy x
            rw [isV_P hg hR4, b2i_0, b2i_n]
            have ex8 : x8 = ((x % 48 : Nat) : Int) + dX d := by omega
            have ex9 : x9 = ((x / 48 : Nat) : Int) + dY d := by omega
            -- the next direction
            have nextd : ∀ (tail' : Nat) (M5 : Mm), head < tail' → Fx (fun t j => (t = 1119 ∨ t = 1123) ∧ j = 0) M M5 → Bf 2304 (cp P) ad (fun x => M.1 1119 0 (2304 * p + x)) q n (fun x => M5.1 1119 0 (2304 * p + x)) (M5.1 1123 0) head tail' → M5.1 1123 0 head = x → (∀ r, (r < 2304 * p ∨ 2304 * p + 2304 ≤ r) → M5.1 1119 0 r = M.1 1119 0 r) → (∀ y : Nat, y < 2304 → 0 ≤ M4.1 1119 0 (2304 * p + y) → 0 ≤ M5.1 1119 0 (2304 * p + y)) → (P x8 x9 = true → 0 ≤ M5.1 1119 0 (2304 * p + cid x8 x9)) → L_1030_48 (p : Int) (q : Int) (n : Int) ((head : Int) + 1) (tail' : Int) (x : Int) ((d : Int) + 1) M5 Q := by
              intro tail' M5 a0 a1 a2 a3 a4 a5 a6
              refine ih2 (d + 1) tail' M5 (by omega) a0 a1 a2 a3 a4 fun d' hd' y hy y1 y2 hpy => ?_
              by_cases e : d' = d
              · subst e
                rw [← ex8] at y1
                rw [← ex9] at y2
                have hc : cid x8 x9 = y := by rw [← y1, ← y2, cid_self]
                rw [← hc]
                refine a6 ?_
                rw [← y1, ← y2]
                exact hpy
              · exact a5 y hy (k5 d' (by omega) y hy y1 y2 hpy)
            refine ⟨fun hz => ⟨by omega, nextd tail M4 hlt2 k1 k2 k3 k4 (fun _ _ h => h) (fun h => by rw [hz] at h; cases h)⟩, fun hz => ?_⟩
            have hin := hg x8 x9 hz
            have hy2304 := cid_lt hin.1 hin.2.1 hin.2.2.1 hin.2.2.2
            have hidx : (2304 * (p : Int) + 48 * x9 + x8).toNat = 2304 * p + cid x8 x9 := by unfold cid; omega
            have hm := cid_m hin.1 hin.2.1 hin.2.2.1
            have hdv := cid_d hin.1 hin.2.1 hin.2.2.1
            rw [hidx]
            refine ⟨by omega, fun hneg => ⟨by omega, fun M5 e5 => ⟨⟨by omega, by omega, ?_⟩, fun M6 e6 => ⟨by omega, ?_⟩⟩⟩, fun hpos => ⟨by omega, nextd tail M4 hlt2 k1 k2 k3 k4 (fun _ _ h => h) (fun _ => hpos)⟩⟩
            · have := (k2.push (l' := ups (fun x => M4.1 1119 0 (2304 * p + x)) (cid x8 x9) n) (w' := ups (M4.1 1123 0) tail (cid x8 x9)) hlt2 k3 (d_ad (by omega) hx2 hy2304 (hm.trans ex8) (hdv.trans ex9)) ((cp_cid hin.1 hin.2.1 hin.2.2.1).mpr hz) hy2304 hneg ups_at (fun z _ hz => ups_ne hz) ups_at (fun i hi => ups_ne (by omega))).2
              omega
            · have hlab : M6.1 1119 0 = ups (M4.1 1119 0) (2304 * p + cid x8 x9) n := by rw [e6, setI_ne (by omega), e5, setI_at]
              have hque : M6.1 1123 0 = ups (M4.1 1123 0) tail (cid x8 x9) := by
                rw [e6, setI_at, e5, setI_ne (by omega), Int.toNat_natCast]
                congr 1
                unfold cid
                omega
              have hpush := k2.push (l' := fun x => M6.1 1119 0 (2304 * p + x)) (w' := M6.1 1123 0) hlt2 k3 (d_ad (by omega) hx2 hy2304 (hm.trans ex8) (hdv.trans ex9)) ((cp_cid hin.1 hin.2.1 hin.2.2.1).mpr hz) hy2304 hneg (by show M6.1 1119 0 (2304 * p + cid x8 x9) = n; rw [hlab, ups_at]) (fun z _ hz => by show M6.1 1119 0 (2304 * p + z) = _; rw [hlab, ups_ne (by omega)]) (by rw [hque, ups_at]) (fun i hi => by rw [hque, ups_ne (by omega)])
              refine nextd (tail + 1) M6 (by omega) (k1.tr ?_) hpush.1 (by rw [hque, ups_ne (by omega), k3]) (fun r hr => by rw [hlab, ups_ne (by omega), k4 r hr]) (fun y hy hpos => ?_) (fun _ => by rw [hlab, ups_at]; omega)
              · rw [e6, e5]
                exact (Fx.setI ⟨Or.inl rfl, rfl⟩).tr (Fx.setI ⟨Or.inr rfl, rfl⟩)
              · rw [hlab]
                by_cases g : 2304 * p + y = 2304 * p + cid x8 x9
                · rw [g, ups_at]; omega
                · rw [ups_ne g]; exact hpos
        exact inner 4 0 tail M3 rfl (by omega) g1 g2 hx1 g3 (fun d' hd' => absurd hd' (Nat.not_lt_zero d'))
  exact key 2304 0 1 M2 rfl f2 b2 o2
abbrev FK (f : Nat → Int) (k : Nat) : Nat → Prop := Fi (PK f k) ad
/-- the number of components of phase k -/
noncomputable def nc (f : Nat → Int) (k : Nat) : Nat := cP (FK f k) 2304
theorem pk_mono {f : Nat → Int} {k q : Nat} (h : PK f (k + 1) q) : PK f k q := lay_mono (lay_mono h)
/-- the children of component b of phase k among the first cells below q -/
noncomputable def chn (f : Nat → Int) (k : Nat) (b q : Nat) : Nat := cP (fun x => FK f (k + 1) x ∧ lb (PK f k) x = b) q
def TL (t j : Nat) : Prop := (t = 1119 ∨ t = 1120 ∨ t = 1121 ∨ t = 1122 ∨ t = 1123) ∧ j = 0
theorem c1031 {p : Nat} {f : Nat → Int} {M : Mm} {Q : Mm → Prop} (hp : p < 12) (hR : PhR M f p) (hL : ∀ k, p = k + 1 → (∀ x, x < 2304 → M.1 1119 0 (2304 * k + x) = lb (PK f k) x) ∧ ∀ b, b < nc f k → M.1 1122 0 (80 * k + b) = 0)
    (hQ : ∀ M', Fx TL M M' → (∀ x, x < 2304 → M'.1 1119 0 (2304 * p + x) = lb (PK f p) x) → M'.1 1120 0 p = nc f p → (∀ c, c < nc f p → M'.1 1122 0 (80 * p + c) = 0) → (∀ k, p = k + 1 → (∀ q, q < 2304 → FK f p q → M'.1 1121 0 (80 * p + cP (FK f p) q) = lb (PK f k) q) ∧ ∀ b, b < nc f k → M'.1 1122 0 (80 * k + b) = chn f k b 2304) → (∀ r, r < 2304 * p → M'.1 1119 0 r = M.1 1119 0 r) → (∀ r, r ≠ p → M'.1 1120 0 r = M.1 1120 0 r) → (∀ r, r < 80 * p → M'.1 1121 0 r = M.1 1121 0 r) → (∀ r, r + 80 < 80 * p → M'.1 1122 0 r = M.1 1122 0 r) → Q M') : E_1031 (p : Int) M Q := by
  refine s_1031_0 ?_
  have hg := lay_g f (2 * p + 1)
  -- all cells to -1
  have clr := lp_up (P := fun i => ∀ M', (Fx TL M M' ∧ (∀ x, x < i → M'.1 1119 0 (2304 * p + x) = -1) ∧ (∀ r, r < 2304 * p → M'.1 1119 0 r = M.1 1119 0 r) ∧ M'.1 1120 0 = M.1 1120 0 ∧ M'.1 1121 0 = M.1 1121 0 ∧ M'.1 1122 0 = M.1 1122 0) → L_1031_4 (p : Int) 0 (i : Int) M' Q) 2304 ?_ ?_
  · exact clr M ⟨Fx.rf, fun x hx => absurd hx (Nat.not_lt_zero x), fun _ _ => rfl, rfl, rfl, rfl⟩
  · intro i hi ih M1 ⟨h1, h2, h3, h4, h5, h6⟩
    refine s_1031_4 ⟨fun g => by omega, fun _ => ⟨by omega, fun M2 e => ⟨by omega, ih M2 ⟨h1.tr (by rw [e]; exact Fx.setI ⟨Or.inl rfl, rfl⟩), fun x hx => ?_, fun r hr => ?_, ?_, ?_, ?_⟩⟩⟩⟩
    all_goals (rw [show (2304 * (p : Int) + (i : Int)).toNat = 2304 * p + i by omega] at e)
    · rw [e, setI_at]
      by_cases g : x = i
      · subst g; rw [ups_at]
      · rw [ups_ne (by omega)]; exact h2 x (by omega)
    · rw [e, setI_at, ups_ne (by omega)]; exact h3 r hr
    · rw [e, setI_ne (by omega)]; exact h4
    · rw [e, setI_ne (by omega)]; exact h5
    · rw [e, setI_ne (by omega)]; exact h6
  intro M1 ⟨h1, h2, h3, h4, h5, h6⟩
  refine s_1031_4 ⟨fun _ => ?_, fun g => by omega⟩
  have start := Otr.z (N := 2304) (P := PK f p) (A := ad) (l := fun x => M1.1 1119 0 (2304 * p + x)) (fun x hx => by rw [h2 x hx]; omega)
  have key : ∀ (s q : Nat) (M' : Mm), q + s = 2304 → Fx TL M M' → Otr 2304 (PK f p) ad q (fun x => M'.1 1119 0 (2304 * p + x)) → (∀ x, x < 2304 → 0 ≤ M'.1 1119 0 (2304 * p + x) ∨ M'.1 1119 0 (2304 * p + x) = -1) → (∀ c, c < cP (FK f p) q → M'.1 1122 0 (80 * p + c) = 0) → (∀ k, p = k + 1 → (∀ x, x < q → FK f p x → M'.1 1121 0 (80 * p + cP (FK f p) x) = lb (PK f k) x) ∧ ∀ b, b < nc f k → M'.1 1122 0 (80 * k + b) = chn f k b q) → (∀ r, r < 2304 * p → M'.1 1119 0 r = M.1 1119 0 r) → M'.1 1120 0 = M.1 1120 0 → (∀ r, r < 80 * p → M'.1 1121 0 r = M.1 1121 0 r) → (∀ r, r + 80 < 80 * p → M'.1 1122 0 r = M.1 1122 0 r) → L_1031_32 (p : Int) (cP (FK f p) q : Int) (q : Int) M' Q := by
    intro s
    induction s with
    | zero =>
      intro q M2 hq g1 g2 g3 g4 g5 g6 g7 g8 g9
      have e : q = 2304 := by omega
      subst e
      have hl := Otr.fin ad_sy g2
      refine s_1031_32 ⟨fun _ => ⟨by omega, fun M3 e3 => ?_⟩, fun g => by omega⟩
      rw [Int.toNat_natCast] at e3
      refine hQ M3 (g1.tr (by rw [e3]; exact Fx.setI ⟨by simp, rfl⟩)) (fun x hx => ?_) ?_ (fun c hc => ?_) (fun k hk => ⟨fun q hq hf => ?_, fun b hb => ?_⟩) (fun r hr => ?_) (fun r hr => ?_) (fun r hr => ?_) (fun r hr => ?_)
      · rw [e3, setI_ne (by omega)]
        by_cases hpx : PK f p x
        · exact hl.lb hx hpx
        · rw [lb_n hpx]
          rcases g3 x hx with k | k
          · exact absurd (g2.1 x hx k).1 hpx
          · exact k
      · rw [e3, setI_at, ups_at]; rfl
      · rw [e3, setI_ne (by omega)]; exact g4 c hc
      · rw [e3, setI_ne (by omega)]; exact (g5 k hk).1 q hq hf
      · rw [e3, setI_ne (by omega)]; exact (g5 k hk).2 b hb
      · rw [e3, setI_ne (by omega)]; exact g6 r hr
      · rw [e3, setI_at, ups_ne hr, g7]
      · rw [e3, setI_ne (by omega)]; exact g8 r hr
      · rw [e3, setI_ne (by omega)]; exact g9 r hr
    | succ s ih =>
      intro q M2 hq g1 g2 g3 g4 g5 g6 g7 g8 g9
      have hq2 : q < 2304 := by omega
      refine s_1031_32 ⟨fun g => by omega, fun _ => ⟨by omega, fun d ed => ⟨by omega, fun d1 ed1 => ⟨by omega, ?_⟩⟩⟩⟩
      rw [tmod_p (by omega)] at ed
      rw [tdiv_p (by omega)] at ed1
      have hR2 : PhR M2 f p := by
        intro y hy x
        rw [(g1 1116 0 (by simp [TL])).2]
        exact hR y hy x
      rw [isV_P hg hR2, b2i_0, b2i_n]
      have hcp : lay f (2 * p + 1) d d1 = true ↔ PK f p q := by
        show _ ↔ lay f (2 * p + 1) ((q % 48 : Nat) : Int) ((q / 48 : Nat) : Int) = true
        rw [show d = ((q % 48 : Nat) : Int) by omega, show d1 = ((q / 48 : Nat) : Int) by omega]
      have skip : ¬ PK f p q ∨ 0 ≤ M2.1 1119 0 (2304 * p + q) → L_1031_32 (p : Int) (cP (FK f p) q : Int) ((q : Int) + 1) M2 Q := by
        intro hs
        obtain ⟨k1, k2⟩ := Otr.nx hq2 g2 hs
        have := ih (q + 1) M2 (by omega) g1 k1 g3 (fun c hc => g4 c (by rwa [cP_n k2] at hc)) (fun k hk => ⟨fun x hx hf => (g5 k hk).1 x (by
          rcases Nat.lt_or_ge x q with a | a
          · exact a
          · have : x = q := by omega
            subst this; exact absurd hf k2) hf, fun b hb => by
          rw [(g5 k hk).2 b hb]
          unfold chn
          rw [cP_n (fun h => k2 (by subst hk; exact h.1))]⟩) g6 g7 g8 g9
        rw [cP_n k2] at this
        exact this
      have hidx : (2304 * (p : Int) + (q : Int)).toNat = 2304 * p + q := by omega
      rw [hidx]
      refine ⟨fun hz => ⟨by omega, skip (Or.inl (fun h => by rw [hcp.mpr h] at hz; cases hz))⟩, fun hz => ⟨by omega, fun hneg => ?_, fun hpos => ⟨by omega, skip (Or.inr hpos)⟩⟩⟩
      have hpq := hcp.mp hz
      obtain ⟨hf, hN⟩ := Otr.fi ad_sy hq2 g2 hpq hneg
      have hn72 : cP (FK f p) q < 72 := Nat.lt_of_lt_of_le (cP_lt hq2 hf) (nc_le f p)
      refine c1030 hp hq2 hg hR2 hpq hneg hN fun M3 f3 k1 k2 k3 => ⟨by omega, fun M4 e4 => ?_⟩
      have i80 : (80 * (p : Int) + (cP (FK f p) q : Int)).toNat = 80 * p + cP (FK f p) q := by omega
      rw [i80] at e4
      have f4 : Fx TL M M4 := g1.tr ((f3.up fun t j g => ⟨by rcases g.1 with h | h <;> simp [h], g.2⟩).tr (by rw [e4]; exact Fx.setI ⟨by simp, rfl⟩))
      have l4 : M4.1 1119 0 = M3.1 1119 0 := by rw [e4, setI_ne (by omega)]
      have c4 : M4.1 1122 0 = ups (M2.1 1122 0) (80 * p + cP (FK f p) q) 0 := by rw [e4, setI_at, (f3 1122 0 (by simp)).1]
      have p4 : M4.1 1121 0 = M2.1 1121 0 := by rw [e4, setI_ne (by omega), (f3 1121 0 (by simp)).1]
      have n4 : M4.1 1120 0 = M2.1 1120 0 := by rw [e4, setI_ne (by omega), (f3 1120 0 (by simp)).1]
      have o4 : Otr 2304 (PK f p) ad (q + 1) (fun x => M4.1 1119 0 (2304 * p + x)) := by
        refine Otr.up ad_sy g2 hf (fun x hx hc => ?_) (fun x hx hc => ?_)
        · show M4.1 1119 0 _ = _
          rw [l4]; exact k1 x hx hc
        · show M4.1 1119 0 _ = _
          rw [l4]; exact k2 x hx hc
      have m4 : ∀ x, x < 2304 → 0 ≤ M4.1 1119 0 (2304 * p + x) ∨ M4.1 1119 0 (2304 * p + x) = -1 := by
        intro x hx
        rw [l4]
        by_cases hc : Cn (cp (lay f (2 * p + 1))) ad q x
        · rw [k1 x hx hc]; left; omega
        · rw [k2 x hx hc]; exact g3 x hx
      have r4 : ∀ r, r < 2304 * p → M4.1 1119 0 r = M.1 1119 0 r := by
        intro r hr
        rw [l4, k3 r (Or.inl hr)]
        exact g6 r hr
      have hs : cP (FK f p) (q + 1) = cP (FK f p) q + 1 := cP_y hf
      refine ⟨fun hp0 => ⟨by omega, ?_⟩, fun hp0 => ?_⟩
      · have := ih (q + 1) M4 (by omega) f4 o4 m4 (fun c hc => by
          rw [c4]
          by_cases e : c = cP (FK f p) q
          · rw [e, ups_at]
          · rw [ups_ne (by omega)]; exact g4 c (by omega)) (fun k hk => by omega) r4 (by rw [n4, g7]) (fun r hr => by omega) (fun r hr => by omega)
        rw [hs] at this
        exact this
      · obtain ⟨k, hk⟩ : ∃ k, p = k + 1 := ⟨p - 1, by omega⟩
        have hpk : PK f k q := by
          have := hpq
          rw [hk] at this
          exact pk_mono this
        have b0 := lb_0 (P := PK f k) hpk
        have b1 := lb_lt (P := PK f k) hq2
        have b2 := nc_le f k
        have hpar : M4.1 1119 0 (2304 * k + q) = lb (PK f k) q := by
          rw [r4 _ (by omega)]
          exact (hL k hk).1 q hq2
        have ipar : (2304 * ((p : Int) - 1) + (q : Int)).toNat = 2304 * k + q := by omega
        rw [ipar, hpar]
        obtain ⟨b, hb⟩ : ∃ b : Nat, lb (PK f k) q = b := ⟨(lb (PK f k) q).toNat, by omega⟩
        rw [hb] at b1 ⊢
        refine ⟨by omega, fun M5 e5 => ?_⟩
        rw [i80] at e5
        have hpar5 : M5.1 1119 0 (2304 * k + q) = b := by rw [e5, setI_ne (by omega), hpar, hb]
        have ich : (80 * ((p : Int) - 1) + (b : Int)).toNat = 80 * k + b := by omega
        have c5 : M5.1 1122 0 = M4.1 1122 0 := by rw [e5, setI_ne (by omega)]
        have hcb : M5.1 1122 0 (80 * k + b) = chn f k b q := by
          rw [c5, c4, ups_ne (by omega)]
          exact (g5 k hk).2 b (show b < cP (Fi (PK f k) ad) 2304 by omega)
        have hle : chn f k b q ≤ 2304 := Nat.le_trans (cP_le _ q) (by omega)
        rw [hpar5, ich, hcb]
        refine ⟨by omega, fun M6 e6 => ⟨by omega, ?_⟩⟩
        have l6 : M6.1 1119 0 = M4.1 1119 0 := by rw [e6, setI_ne (by omega), e5, setI_ne (by omega)]
        have p6 : M6.1 1121 0 = ups (M2.1 1121 0) (80 * p + cP (FK f p) q) b := by rw [e6, setI_ne (by omega), e5, setI_at, p4]
        have c6 : M6.1 1122 0 = ups (ups (M2.1 1122 0) (80 * p + cP (FK f p) q) 0) (80 * k + b) ((chn f k b q : Int) + 1) := by rw [e6, setI_at, c5, c4]
        have n6 : M6.1 1120 0 = M2.1 1120 0 := by rw [e6, setI_ne (by omega), e5, setI_ne (by omega), n4]
        have := ih (q + 1) M6 (by omega) (f4.tr (by rw [e6, e5]; exact (Fx.setI ⟨by simp, rfl⟩).tr (Fx.setI ⟨by simp, rfl⟩))) (by rw [l6]; exact o4) (by rw [l6]; exact m4) (fun c hc => by
          rw [c6, ups_ne (by omega)]
          by_cases e : c = cP (FK f p) q
          · rw [e, ups_at]
          · rw [ups_ne (by omega)]; exact g4 c (by omega)) (fun k' hk' => by
          have ek : k' = k := by omega
          subst ek
          refine ⟨fun x hx hfx => ?_, fun b' hb' => ?_⟩
          · rw [p6]
            by_cases e : x = q
            · subst e; rw [ups_at, hb]
            · have := cP_lt (show x < q by omega) hfx
              rw [ups_ne (by omega)]
              exact (g5 k' hk').1 x (by omega) hfx
          · have hb72 : b' < 72 := Nat.lt_of_lt_of_le hb' b2
            rw [c6]
            by_cases e : b' = b
            · subst e
              rw [ups_at]
              unfold chn
              rw [cP_y ⟨by rw [← hk]; exact hf, hb⟩]
              rfl
            · rw [ups_ne (by omega), ups_ne (by omega), (g5 k' hk').2 b' hb']
              unfold chn
              rw [cP_n (fun h => e (by have := h.2; omega))]) (by rw [l6]; exact r4) (by rw [n6, g7]) (fun r hr => by rw [p6, ups_ne (by omega)]; exact g8 r hr) (fun r hr => by rw [c6, ups_ne (by omega), ups_ne (by omega)]; exact g9 r hr)
        rw [hs] at this
        exact this
  have := key 2304 0 M1 rfl h1 start (fun x hx => Or.inr (h2 x hx)) (fun c hc => absurd hc (Nat.not_lt_zero c)) (fun k hk => ⟨fun x hx => absurd hx (Nat.not_lt_zero x), fun b hb => by rw [h6]; exact (hL k hk).2 b hb⟩) h3 h4 (fun r _ => by rw [h5]) (fun r _ => by rw [h6])
  exact this

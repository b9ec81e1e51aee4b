/-! the tree of components; leaves in dominoes -/
theorem Cn.mono {P P' : Nat → Prop} {A : Nat → Nat → Prop} {a b : Nat} (h : Cn P A a b) (g : ∀ x, P x → P' x) : Cn P' A a b := fun S h1 h2 => h S h1 fun c d s1 s2 s3 => h2 c d s1 s2 (g d s3)
theorem lb_cn {P : Nat → Prop} {a b : Nat} (h : Cn P ad a b) (ha : P a) : lb P a = lb P b := by
  obtain ⟨q0, -, h1, h2⟩ := fi_ex (A := ad) ha
  rw [lb_y h1 h2, lb_y h1 (h2.tr h)]
/-- the first cell of component c -/
noncomputable def fcK (f : Nat → Int) (k c : Nat) : Nat := @dite Nat (∃ q, q < 2304 ∧ FK f k q ∧ cP (FK f k) q = c) (Classical.propDecidable _) (fun h => Classical.choose h) (fun _ => 0)
theorem fcK_s {f : Nat → Int} {k c : Nat} (h : c < nc f k) : fcK f k c < 2304 ∧ FK f k (fcK f k c) ∧ cP (FK f k) (fcK f k c) = c := by
  have hex : ∃ q, q < 2304 ∧ FK f k q ∧ cP (FK f k) q = c := cP_ex h
  unfold fcK
  rw [dif_pos hex]
  exact Classical.choose_spec hex
theorem fcK_q {f : Nat → Int} {k q : Nat} (hq : q < 2304) (h : FK f k q) : fcK f k (cP (FK f k) q) = q := by
  have := fcK_s (f := f) (k := k) (c := cP (FK f k) q) (cP_lt hq h)
  exact cP_inj this.2.1 h this.2.2
/-- the parent of component c -/
noncomputable def prK (f : Nat → Int) (k c : Nat) : Int := parK f k (fcK f k c)
theorem prK_s (f : Nat → Int) (k c : Nat) : prK f (k + 1) c = lb (PK f k) (fcK f (k + 1) c) := by
  unfold prK parK
  rw [if_neg (Nat.succ_ne_zero k)]
  rfl
theorem kdn_chn (f : Nat → Int) (k b : Nat) : kdn (nc f) (prK f) k b = chn f k b 2304 := by
  have key : ∀ n, n ≤ 2304 → cntB (isK (prK f) k b) (cP (FK f (k + 1)) n) = chn f k b n := by
    intro n
    induction n with
    | zero => intro _; rfl
    | succ n ih =>
      intro hn
      have ih := ih (by omega)
      by_cases hf : FK f (k + 1) n
      · have e : prK f (k + 1) (cP (FK f (k + 1)) n) = lb (PK f k) n := by rw [prK_s, fcK_q (by omega) hf]
        rw [cP_y hf]
        unfold chn at ih ⊢
        by_cases hb : lb (PK f k) n = b
        · rw [cP_y (p := fun x => FK f (k + 1) x ∧ lb (PK f k) x = b) ⟨hf, hb⟩, ← ih]
          exact cntB_y (decide_eq_true (by rw [e]; exact hb))
        · rw [cP_n (p := fun x => FK f (k + 1) x ∧ lb (PK f k) x = b) (fun h => hb h.2), ← ih]
          exact cntB_n (decide_eq_false (by rw [e]; exact hb))
      · rw [cP_n hf, ih]
        unfold chn
        rw [cP_n (p := fun x => FK f (k + 1) x ∧ lb (PK f k) x = b) (fun h => hf h.1)]
  exact key 2304 (Nat.le_refl _)
/-- a component in which a cell of the next phase lies has a child -/
theorem kid_of {f : Nat → Int} {k b q : Nat} (hq : q < 2304) (h : PK f (k + 1) q) (hb : lb (PK f k) q = b) : 0 < kdn (nc f) (prK f) k b := by
  obtain ⟨q0, h0, h1, h2⟩ := fi_ex (A := ad) h
  have hl : lb (PK f k) q0 = b := by rw [← hb]; exact lb_cn (h2.mono fun x => pk_mono) (pk_mono h1.1)
  have hc : cP (FK f (k + 1)) q0 < nc f (k + 1) := cP_lt (by omega) h1
  refine cntB_one hc (decide_eq_true ?_)
  rw [prK_s, fcK_q (by omega) h1]
  exact hl
theorem lcnt_nc {f : Nat → Int} {k : Nat} (h : lcnt f (2 * k + 1) = 0) : nc f k = 0 := by
  have h0 := lcnt_0.mp h
  have := cP_gap (p := FK f k) (n := 0) (m := 2304) (by omega) fun x _ hx hf => by
    have h1 : lay f (2 * k + 1) ((x % 48 : Nat) : Int) ((x / 48 : Nat) : Int) = true := hf.1
    rw [h0] at h1
    cases h1
  exact this
theorem IsN.nc0 {f : Nat → Int} {n k : Nat} (h : IsN f n) (hk : n ≤ k) : nc f k = 0 := by
  have := lcnt_up h.2 (2 * (k - n))
  rw [show 2 * n + 1 + 2 * (k - n) = 2 * k + 1 by omega] at this
  exact lcnt_nc this
/-- two squares whose middles share a domino: the smaller one's component goes on -/
theorem leaf_geo {f : Nat → Int} {k k2 : Nat} {x y x2 y2 : Int} (h : lay f (2 * k + 1) x y = true) (h2 : lay f (2 * k2 + 1) x2 y2 = true) (hk : k < k2) (hu : ((x - 2 * k) / 4 + ((k : Int) + 1) / 2) / 2 = ((x2 - 2 * k2) / 4 + ((k2 : Int) + 1) / 2) / 2) (hv : (y - 2 * k) / 4 + ((k : Int) + 1) / 2 = (y2 - 2 * k2) / 4 + ((k2 : Int) + 1) / 2) : ∃ x' y', lay f (2 * (k + 1) + 1) x' y' = true ∧ Cn (PK f k) ad (cid x y) (cid x' y') := by
  obtain ⟨c1, m1⟩ := to_mid h
  obtain ⟨-, m2⟩ := to_mid h2
  have hg := lay_g f (2 * k + 1)
  have A := pk_w.mp m1
  have B := pk_w.mp m2
  unfold mid at A B c1
  generalize hU : (x - 2 * k) / 4 = U at *
  generalize hV : (y - 2 * k) / 4 = V at *
  generalize hU2 : (x2 - 2 * k2) / 4 = U2 at *
  generalize hV2 : (y2 - 2 * k2) / 4 = V2 at *
  have A' : ∀ a b : Int, U ≤ a → a ≤ U + k → V ≤ b → b ≤ V + k → cel f a b = true := fun a b a1 a2 b1 b2 => A a b (by omega) (by omega) (by omega) (by omega)
  have B' : ∀ a b : Int, U2 ≤ a → a ≤ U2 + k2 → V2 ≤ b → b ≤ V2 + k2 → cel f a b = true := fun a b a1 a2 b1 b2 => B a b (by omega) (by omega) (by omega) (by omega)
  clear A B
  obtain ⟨u, u1, u2, u3, u4⟩ : ∃ u : Int, U2 ≤ u ∧ u + 1 ≤ U2 + k2 - k ∧ u - 1 ≤ U ∧ U ≤ u + 2 := by
    by_cases q1 : U ≤ U2
    · exact ⟨U2, by omega, by omega, by omega, by omega⟩
    · by_cases q2 : U2 + k2 - k ≤ U
      · exact ⟨U2 + k2 - k - 1, by omega, by omega, by omega, by omega⟩
      · exact ⟨U, by omega, by omega, by omega, by omega⟩
  obtain ⟨v, v1, v2, v3, v4⟩ : ∃ v : Int, V2 ≤ v ∧ v + 1 ≤ V2 + k2 - k ∧ v ≤ V ∧ V ≤ v + 1 := by
    by_cases q2 : V2 + k2 - k ≤ V
    · exact ⟨V2 + k2 - k - 1, by omega, by omega, by omega, by omega⟩
    · exact ⟨V, by omega, by omega, by omega, by omega⟩
  refine ⟨4 * u + 2 * k + 3, 4 * v + 2 * k + 3, pk_w.mpr fun a b a1 a2 b1 b2 => B' a b (by omega) (by omega) (by omega) (by omega), (c1.tr (row_cn hg (y := 4 * V + 2 * k + 1) (a := 4 * U + 2 * k + 1) (b := 4 * u + 2 * k + 3) fun i hi => pk_w.mpr fun a b a1 a2 b1 b2 => ?_)).tr (col_cn hg (x := 4 * u + 2 * k + 3) (a := 4 * V + 2 * k + 1) (b := 4 * v + 2 * k + 3) fun i hi => pk_w.mpr fun a b a1 a2 b1 b2 => B' a b (by omega) (by omega) (by omega) (by omega))⟩
  by_cases q : U ≤ a ∧ a ≤ U + k
  · exact A' a b q.1 q.2 (by omega) (by omega)
  · exact B' a b (by omega) (by omega) (by omega) (by omega)
/-- the domino of a component's first cell -/
def dmn (k q : Nat) : Nat := ((((q % 48 : Nat) : Int) - 2 * k) / 4 + ((k : Int) + 1) / 2).toNat / 2 + 6 * ((((q / 48 : Nat) : Int) - 2 * k) / 4 + ((k : Int) + 1) / 2).toNat
theorem dmn_rng {f : Nat → Int} {k q : Nat} (h : PK f k q) : (0 ≤ (((q % 48 : Nat) : Int) - 2 * k) / 4 + ((k : Int) + 1) / 2 ∧ (((q % 48 : Nat) : Int) - 2 * k) / 4 + ((k : Int) + 1) / 2 ≤ 11) ∧ 0 ≤ (((q / 48 : Nat) : Int) - 2 * k) / 4 + ((k : Int) + 1) / 2 ∧ (((q / 48 : Nat) : Int) - 2 * k) / 4 + ((k : Int) + 1) / 2 ≤ 11 := by
  obtain ⟨h1, h2, h3, h4⟩ := lay_in h
  omega
theorem dmn_lt {f : Nat → Int} {k q : Nat} (h : PK f k q) : dmn k q < 72 := by
  have := dmn_rng h
  unfold dmn
  omega
theorem dmn_eq {f : Nat → Int} {k q k2 q2 : Nat} (h : PK f k q) (h2 : PK f k2 q2) (e : dmn k q = dmn k2 q2) : ((((q % 48 : Nat) : Int) - 2 * k) / 4 + ((k : Int) + 1) / 2) / 2 = ((((q2 % 48 : Nat) : Int) - 2 * k2) / 4 + ((k2 : Int) + 1) / 2) / 2 ∧ (((q / 48 : Nat) : Int) - 2 * k) / 4 + ((k : Int) + 1) / 2 = (((q2 / 48 : Nat) : Int) - 2 * k2) / 4 + ((k2 : Int) + 1) / 2 := by
  have r1 := dmn_rng h
  have r2 := dmn_rng h2
  unfold dmn at e
  generalize (((q % 48 : Nat) : Int) - 2 * k) / 4 + ((k : Int) + 1) / 2 = a at *
  generalize (((q / 48 : Nat) : Int) - 2 * k) / 4 + ((k : Int) + 1) / 2 = b at *
  generalize (((q2 % 48 : Nat) : Int) - 2 * k2) / 4 + ((k2 : Int) + 1) / 2 = c at *
  generalize (((q2 / 48 : Nat) : Int) - 2 * k2) / 4 + ((k2 : Int) + 1) / 2 = d at *
  omega
/-- leaves of different phases have different dominoes -/
theorem leaf_ne {f : Nat → Int} {k b k2 b2 : Nat} (hb : b < nc f k) (hb2 : b2 < nc f k2) (h0 : kdn (nc f) (prK f) k b = 0) (hk : k < k2) : dmn k (fcK f k b) ≠ dmn k2 (fcK f k2 b2) := by
  obtain ⟨a1, a2, a3⟩ := fcK_s hb
  obtain ⟨b1, c2, b3⟩ := fcK_s hb2
  intro e
  obtain ⟨e1, e2⟩ := dmn_eq a2.1 c2.1 e
  obtain ⟨x', y', l1, l2⟩ := leaf_geo a2.1 c2.1 hk e1 e2
  rw [cid_self] at l2
  have hin := lay_g f (2 * (k + 1) + 1) x' y' l1
  have hp : PK f (k + 1) (cid x' y') := (cp_cid hin.1 hin.2.1 hin.2.2.1).mpr l1
  have hl : lb (PK f k) (cid x' y') = b := by
    rw [← lb_cn l2 a2.1, lb_y a2 (Cn.rf _), a3]
  have := kid_of (cid_lt hin.1 hin.2.1 hin.2.2.1 hin.2.2.2) hp hl
  omega
/-- components of one phase whose first cells share a domino are the same -/
theorem leaf_eq {f : Nat → Int} {k b b2 : Nat} (hb : b < nc f k) (hb2 : b2 < nc f k) (e : dmn k (fcK f k b) = dmn k (fcK f k b2)) : b = b2 := by
  obtain ⟨a1, a2, a3⟩ := fcK_s hb
  obtain ⟨b1, c2, b3⟩ := fcK_s hb2
  obtain ⟨e1, e2⟩ := dmn_eq a2.1 c2.1 e
  obtain ⟨c1, m1⟩ := to_mid a2.1
  obtain ⟨d1, m2⟩ := to_mid c2.1
  rw [cid_self] at c1 d1
  have hg := lay_g f (2 * k + 1)
  have A := pk_w.mp m1
  have B := pk_w.mp m2
  have hc : Cn (PK f k) ad (cid (mid k ((fcK f k b % 48 : Nat) : Int)) (mid k ((fcK f k b / 48 : Nat) : Int))) (cid (mid k ((fcK f k b2 % 48 : Nat) : Int)) (mid k ((fcK f k b2 / 48 : Nat) : Int))) := by
    unfold mid at A B ⊢
    generalize hU : (((fcK f k b % 48 : Nat) : Int) - 2 * k) / 4 = U at *
    generalize hV : (((fcK f k b / 48 : Nat) : Int) - 2 * k) / 4 = V at *
    generalize hU2 : (((fcK f k b2 % 48 : Nat) : Int) - 2 * k) / 4 = U2 at *
    generalize hV2 : (((fcK f k b2 / 48 : Nat) : Int) - 2 * k) / 4 = V2 at *
    have eV : V2 = V := by omega
    rw [eV] at B ⊢
    have A' : ∀ a b : Int, U ≤ a → a ≤ U + k → V ≤ b → b ≤ V + k → cel f a b = true := fun a b a1 a2 b1 b2 => A a b (by omega) (by omega) (by omega) (by omega)
    have B' : ∀ a b : Int, U2 ≤ a → a ≤ U2 + k → V ≤ b → b ≤ V + k → cel f a b = true := fun a b a1 a2 b1 b2 => B a b (by omega) (by omega) (by omega) (by omega)
    clear A B
    refine row_cn hg (y := 4 * V + 2 * k + 1) fun i hi => pk_w.mpr fun a b a1 a2 b1 b2 => ?_
    by_cases q : U ≤ a ∧ a ≤ U + k
    · exact A' a b q.1 q.2 (by omega) (by omega)
    · exact B' a b (by omega) (by omega) (by omega) (by omega)
  have all : Cn (PK f k) ad (fcK f k b) (fcK f k b2) := (c1.tr hc).tr (d1.sy ad_sy c2.1)
  have := lb_cn all a2.1
  rw [lb_y a2 (Cn.rf _), lb_y c2 (Cn.rf _), a3, b3] at this
  omega

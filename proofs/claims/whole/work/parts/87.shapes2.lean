/-! symmetries: the reference; both count the same -/
def ivX (t : Nat) (u v : Int) : Int := if t = 0 then u else if t = 1 then v else if t = 2 then 11 - u else if t = 3 then 11 - v else if t = 4 then 11 - u else if t = 5 then u else if t = 6 then v else 11 - v
def ivY (t : Nat) (u v : Int) : Int := if t = 0 then v else if t = 1 then 11 - u else if t = 2 then 11 - v else if t = 3 then u else if t = 4 then v else if t = 5 then 11 - v else if t = 6 then u else 11 - u
theorem iv_all {t : Nat} (ht : t < 8) (x y : Int) : ivX t (txV (t : Int) x y) (tyV (t : Int) x y) = x ∧ ivY t (txV (t : Int) x y) (tyV (t : Int) x y) = y ∧ txV (t : Int) (ivX t x y) (ivY t x y) = x ∧ tyV (t : Int) (ivX t x y) (ivY t x y) = y := by
  rcases (show t = 0 ∨ t = 1 ∨ t = 2 ∨ t = 3 ∨ t = 4 ∨ t = 5 ∨ t = 6 ∨ t = 7 by omega) with rfl | rfl | rfl | rfl | rfl | rfl | rfl | rfl <;> simp [ivX, ivY, txV, tyV] <;> omega
theorem tx_rng {t : Nat} (ht : t < 8) {x y : Int} (hx : 0 ≤ x ∧ x < 12) (hy : 0 ≤ y ∧ y < 12) : (0 ≤ txV (t : Int) x y ∧ txV (t : Int) x y < 12) ∧ 0 ≤ tyV (t : Int) x y ∧ tyV (t : Int) x y < 12 := by
  rcases (show t = 0 ∨ t = 1 ∨ t = 2 ∨ t = 3 ∨ t = 4 ∨ t = 5 ∨ t = 6 ∨ t = 7 by omega) with rfl | rfl | rfl | rfl | rfl | rfl | rfl | rfl <;> simp [txV, tyV] <;> omega
/-- the turned copy -/
def trA (A : Int → Int → Bool) (t : Nat) : Int → Int → Bool := fun u v => A (ivX t u v) (ivY t u v)
theorem img_tr (A : Int → Int → Bool) : imgA A 0 = trA A 0 ∧ imgA A 1 = trA A 1 ∧ imgA A 2 = trA A 2 ∧ imgA A 3 = trA A 3 ∧ imgA A 4 = trA A 4 ∧ imgA A 5 = trA A 7 ∧ imgA A 6 = trA A 5 ∧ imgA A 7 = trA A 6 := by
  have e : ∀ u : Int, 11 - (11 - u) = u := fun u => by omega
  refine ⟨rfl, rfl, ?_, ?_, ?_, ?_, ?_, ?_⟩ <;> (funext u v; simp [imgA, rotA, mirA, trA, ivX, ivY, e])
theorem sym_tr (A : Int → Int → Bool) : symV A = cntB (fun t => shB (trA A t) A) 8 := by
  obtain ⟨e0, e1, e2, e3, e4, e5, e6, e7⟩ := img_tr A
  unfold symV
  have h1 : ∀ b : Nat → Bool, cntB b 8 = (bif b 0 then 1 else 0) + (bif b 1 then 1 else 0) + (bif b 2 then 1 else 0) + (bif b 3 then 1 else 0) + (bif b 4 then 1 else 0) + (bif b 5 then 1 else 0) + (bif b 6 then 1 else 0) + (bif b 7 then 1 else 0) := fun b => by
    show 0 + _ + _ + _ + _ + _ + _ + _ + _ = _
    rw [Nat.zero_add]
  rw [h1, h1, e0, e1, e2, e3, e4, e5, e6, e7]
  generalize (bif shB (trA A 5) A then 1 else 0) = a
  generalize (bif shB (trA A 6) A then 1 else 0) = b
  generalize (bif shB (trA A 7) A then 1 else 0) = c
  omega
/-! a map of a finite set into itself, one to one, reaches all -/
theorem inj_all {p : Nat → Bool} {N : Nat} {g : Nat → Nat} (h1 : ∀ q, q < N → p q = true → g q < N ∧ p (g q) = true) (h2 : ∀ q r, q < N → r < N → p q = true → p r = true → g q = g r → q = r) {r : Nat} (hr : r < N) (hp : p r = true) : ∃ q, q < N ∧ p q = true ∧ g q = r := by
  refine Classical.byContradiction fun hno => ?_
  have a : cntB (fun x => p x && !decide (x = r)) N < cntB p N := cntB_sub (fun x _ hx => by
    rw [Bool.and_eq_true] at hx
    exact hx.1) hr hp (by rw [hp, decide_eq_true rfl]; rfl)
  have hn : ∀ q, q < N → p q = true → (p (g q) && !decide (g q = r)) = true := fun q hq hpq => by
    rw [(h1 q hq hpq).2, decide_eq_false (fun e => hno ⟨q, hq, hpq, e⟩)]; rfl
  have b : cP (fun x => p x = true) N ≤ cP (fun x => (p x && !decide (x = r)) = true) N := by
    refine cP_pig N _ (fun q => cP (fun x => (p x && !decide (x = r)) = true) (g q)) (fun q hq hpq => ?_) (fun q q' hq hq' hpq hpq' e => ?_)
    · exact cP_lt (p := fun x => (p x && !decide (x = r)) = true) (h1 q hq hpq).1 (hn q hq hpq)
    · exact h2 q q' hq hq' hpq hpq' (cP_inj (p := fun x => (p x && !decide (x = r)) = true) (hn q hq hpq) (hn q' hq' hpq') e)
  rw [cntB_cP, cntB_cP] at a
  omega
/-! the least of some numbers, 99 where there is none -/
def Mi (p : Nat → Bool) (v : Nat → Int) (n : Nat) (m : Int) : Prop := (∀ j, j < n → p j = true → m ≤ v j) ∧ (m = 99 ∨ ∃ j, j < n ∧ p j = true ∧ m = v j)
theorem Mi.z {p : Nat → Bool} {v : Nat → Int} : Mi p v 0 99 := ⟨fun j h => absurd h (Nat.not_lt_zero j), Or.inl rfl⟩
theorem Mi.n {p : Nat → Bool} {v : Nat → Int} {n : Nat} {m : Int} (h : Mi p v n m) (hp : p n = false) : Mi p v (n + 1) m := by
  refine ⟨fun j hj hpj => ?_, ?_⟩
  · by_cases q : j = n
    · rw [q, hp] at hpj; cases hpj
    · exact h.1 j (by omega) hpj
  · rcases h.2 with g | ⟨j, h1, h2⟩
    · exact Or.inl g
    · exact Or.inr ⟨j, by omega, h2⟩
theorem Mi.y {p : Nat → Bool} {v : Nat → Int} {n : Nat} {m m' : Int} (h : Mi p v n m) (hp : p n = true) (hm : (m ≤ v n ∧ m' = m) ∨ (v n ≤ m ∧ m' = v n)) : Mi p v (n + 1) m' := by
  refine ⟨fun j hj hpj => ?_, ?_⟩
  · by_cases q : j = n
    · rw [q]; omega
    · have := h.1 j (by omega) hpj
      omega
  · rcases hm with ⟨-, e⟩ | ⟨-, e⟩
    · rcases h.2 with g | ⟨j, h1, h2, h3⟩
      · exact Or.inl (e.trans g)
      · exact Or.inr ⟨j, by omega, h2, e.trans h3⟩
    · exact Or.inr ⟨n, Nat.lt_succ_self n, hp, e⟩
theorem Mi.bd {p : Nat → Bool} {v : Nat → Int} {n : Nat} {m : Int} (h : Mi p v n m) (hv : ∀ j, j < n → p j = true → 0 ≤ v j ∧ v j < 12) : 0 ≤ m ∧ m ≤ 99 := by
  rcases h.2 with g | ⟨j, h1, h2, h3⟩
  · omega
  · have := hv j h1 h2
    omega
def cxI (c : Nat) : Int := ((c % 12 : Nat) : Int)
def cyI (c : Nat) : Int := ((c / 12 : Nat) : Int)
def cpB (A : Int → Int → Bool) (c : Nat) : Bool := A (cxI c) (cyI c)
/-- into itself: a moved copy -/
theorem shp_sub {f : Nat → Int} {t : Nat} {x0 y0 x1 y1 : Int} (ht : t < 8) (m0 : Mi (cpB (cel f)) cxI 144 x0) (m1 : Mi (cpB (cel f)) cyI 144 y0) (m2 : Mi (cpB (cel f)) (fun c => txV (t : Int) (cxI c) (cyI c)) 144 x1) (m3 : Mi (cpB (cel f)) (fun c => tyV (t : Int) (cxI c) (cyI c)) 144 y1) : Shp (trA (cel f) t) (cel f) ↔ ∀ c, c < 144 → cpB (cel f) c = true → cel f (txV (t : Int) (cxI c) (cyI c) - x1 + x0) (tyV (t : Int) (cxI c) (cyI c) - y1 + y0) = true := by
  have cell : ∀ x y : Int, cel f x y = true → ∃ c, c < 144 ∧ cpB (cel f) c = true ∧ cxI c = x ∧ cyI c = y := fun x y h => by
    have hin := cel_in h
    have e1 : cxI (12 * y + x).toNat = x := by unfold cxI; omega
    have e2 : cyI (12 * y + x).toNat = y := by unfold cyI; omega
    exact ⟨(12 * y + x).toNat, by omega, by unfold cpB; rw [e1, e2]; exact h, e1, e2⟩
  constructor
  · rintro ⟨dx, dy, h⟩ c hc hp
    have hin := cel_in (show cel f (cxI c) (cyI c) = true from hp)
    -- the least corners move with the copy
    have tr : ∀ c, c < 144 → cpB (cel f) c = true → cel f (txV (t : Int) (cxI c) (cyI c) - dx) (tyV (t : Int) (cxI c) (cyI c) - dy) = true := fun c hc hp => by
      obtain ⟨i1, i2, -, -⟩ := iv_all ht (cxI c) (cyI c)
      have := h (txV (t : Int) (cxI c) (cyI c) - dx) (tyV (t : Int) (cxI c) (cyI c) - dy)
      rw [Int.sub_add_cancel, Int.sub_add_cancel] at this
      rw [← this]
      unfold trA
      rw [i1, i2]
      exact hp
    have rt : ∀ x y : Int, cel f x y = true → ∃ c, c < 144 ∧ cpB (cel f) c = true ∧ txV (t : Int) (cxI c) (cyI c) = x + dx ∧ tyV (t : Int) (cxI c) (cyI c) = y + dy := fun x y hxy => by
      rw [← h] at hxy
      obtain ⟨c, c1, c2, c3, c4⟩ := cell _ _ hxy
      obtain ⟨-, -, i3, i4⟩ := iv_all ht (x + dx) (y + dy)
      exact ⟨c, c1, c2, by rw [c3, c4]; exact i3, by rw [c3, c4]; exact i4⟩
    have some0 : ∀ {v : Nat → Int} {m : Int}, Mi (cpB (cel f)) v 144 m → v c < 12 → ∃ j, j < 144 ∧ cpB (cel f) j = true ∧ m = v j := fun hm hv => by
      rcases hm.2 with g | g
      · have := hm.1 c hc hp
        omega
      · exact g
    have htr := tx_rng ht ⟨hin.1, hin.2.1⟩ ⟨hin.2.2.1, hin.2.2.2⟩
    have ex : x1 = x0 + dx := by
      obtain ⟨j, j1, j2, j3⟩ := some0 m0 hin.2.1
      obtain ⟨c', d1, d2, d3, -⟩ := rt _ _ (show cel f (cxI j) (cyI j) = true from j2)
      have a : x1 ≤ txV (t : Int) (cxI c') (cyI c') := m2.1 c' d1 d2
      obtain ⟨k, k1, k2, k3⟩ := some0 m2 htr.1.2
      obtain ⟨c2, e1, e2, e3, -⟩ := cell _ _ (tr k k1 k2)
      have b := m0.1 c2 e1 e2
      omega
    have ey : y1 = y0 + dy := by
      obtain ⟨j, j1, j2, j3⟩ := some0 m1 hin.2.2.2
      obtain ⟨c', d1, d2, -, d4⟩ := rt _ _ (show cel f (cxI j) (cyI j) = true from j2)
      have a : y1 ≤ tyV (t : Int) (cxI c') (cyI c') := m3.1 c' d1 d2
      obtain ⟨k, k1, k2, k3⟩ := some0 m3 htr.2.2
      obtain ⟨c2, e1, e2, -, e4⟩ := cell _ _ (tr k k1 k2)
      have b := m1.1 c2 e1 e2
      omega
    have := tr c hc hp
    rw [ex, ey, show txV (t : Int) (cxI c) (cyI c) - (x0 + dx) + x0 = txV (t : Int) (cxI c) (cyI c) - dx by omega, show tyV (t : Int) (cxI c) (cyI c) - (y0 + dy) + y0 = tyV (t : Int) (cxI c) (cyI c) - dy by omega]
    exact this
  · intro h
    refine ⟨x1 - x0, y1 - y0, fun x y => ?_⟩
    have e : ∀ a b c : Int, a - b + c = a - (b - c) := fun a b c => by omega
    cases hc : cel f x y with
    | true =>
      obtain ⟨r, r1, r2, r3, r4⟩ := cell x y hc
      have hgr : ∀ c, c < 144 → cpB (cel f) c = true → ∃ d, d < 144 ∧ cpB (cel f) d = true ∧ cxI d = txV (t : Int) (cxI c) (cyI c) - x1 + x0 ∧ cyI d = tyV (t : Int) (cxI c) (cyI c) - y1 + y0 := fun c h1 h2 => cell _ _ (h c h1 h2)
      have hid : ∀ c, c < 144 → cpB (cel f) c = true → cxI (12 * (tyV (t : Int) (cxI c) (cyI c) - y1 + y0) + (txV (t : Int) (cxI c) (cyI c) - x1 + x0)).toNat = txV (t : Int) (cxI c) (cyI c) - x1 + x0 ∧ cyI (12 * (tyV (t : Int) (cxI c) (cyI c) - y1 + y0) + (txV (t : Int) (cxI c) (cyI c) - x1 + x0)).toNat = tyV (t : Int) (cxI c) (cyI c) - y1 + y0 := fun c h1 h2 => by
        have hin := cel_in (h c h1 h2)
        unfold cxI cyI at hin ⊢
        omega
      obtain ⟨q, q1, q2, q3⟩ := inj_all (p := cpB (cel f)) (N := 144) (g := fun c => (12 * (tyV (t : Int) (cxI c) (cyI c) - y1 + y0) + (txV (t : Int) (cxI c) (cyI c) - x1 + x0)).toNat) (fun c h1 h2 => by
        have hin := cel_in (h c h1 h2)
        obtain ⟨i1, i2⟩ := hid c h1 h2
        refine ⟨by show (12 * (tyV (t : Int) (cxI c) (cyI c) - y1 + y0) + (txV (t : Int) (cxI c) (cyI c) - x1 + x0)).toNat < 144; omega, ?_⟩
        unfold cpB
        rw [i1, i2]
        exact h c h1 h2) (fun c d c1 d1 c2 d2 e => by
        obtain ⟨i1, i2⟩ := hid c c1 c2
        obtain ⟨k1, k2⟩ := hid d d1 d2
        have e' : (12 * (tyV (t : Int) (cxI c) (cyI c) - y1 + y0) + (txV (t : Int) (cxI c) (cyI c) - x1 + x0)).toNat = (12 * (tyV (t : Int) (cxI d) (cyI d) - y1 + y0) + (txV (t : Int) (cxI d) (cyI d) - x1 + x0)).toNat := e
        rw [e'] at i1 i2
        have s1 : txV (t : Int) (cxI c) (cyI c) = txV (t : Int) (cxI d) (cyI d) := by omega
        have s2 : tyV (t : Int) (cxI c) (cyI c) = tyV (t : Int) (cxI d) (cyI d) := by omega
        obtain ⟨v1, v2, -, -⟩ := iv_all ht (cxI c) (cyI c)
        obtain ⟨w1, w2, -, -⟩ := iv_all ht (cxI d) (cyI d)
        rw [s1, s2] at v1 v2
        have a1 : cxI c = cxI d := v1.symm.trans w1
        have a2 : cyI c = cyI d := v2.symm.trans w2
        unfold cxI at a1
        unfold cyI at a2
        omega) r1 r2
      obtain ⟨i1, i2⟩ := hid q q1 q2
      have q3' : (12 * (tyV (t : Int) (cxI q) (cyI q) - y1 + y0) + (txV (t : Int) (cxI q) (cyI q) - x1 + x0)).toNat = r := q3
      rw [q3', r3] at i1
      rw [q3', r4] at i2
      obtain ⟨v1, v2, -, -⟩ := iv_all ht (cxI q) (cyI q)
      unfold trA
      rw [show x + (x1 - x0) = txV (t : Int) (cxI q) (cyI q) by omega, show y + (y1 - y0) = tyV (t : Int) (cxI q) (cyI q) by omega, v1, v2]
      exact q2
    | false =>
      cases hd : trA (cel f) t (x + (x1 - x0)) (y + (y1 - y0)) with
      | false => rfl
      | true =>
        obtain ⟨c, c1, c2, c3, c4⟩ := cell _ _ hd
        have := h c c1 c2
        obtain ⟨-, -, i3, i4⟩ := iv_all ht (x + (x1 - x0)) (y + (y1 - y0))
        rw [c3, c4, i3, i4, show x + (x1 - x0) - x1 + x0 = x by omega, show y + (y1 - y0) - y1 + y0 = y by omega, hc] at this
        cases this
theorem c1060 {t : Nat} {f : Nat → Int} {M : Mm} {Q : Int → Mm → Prop} (ht : t < 8) (hf : M.1 1101 0 = f) (hR : R12 f) (hQ : Q (b2i (shB (trA (cel f) t) (cel f))) M) : E_1060 (t : Int) M Q := by
  have hW : ∀ x y, hasW (M.1 1101 0) x y = b2i (cel f x y) := fun x y => by rw [hf]; exact hasW_cel hR x y
  have rng : ∀ c, c < 144 → (0 ≤ cxI c ∧ cxI c < 12) ∧ 0 ≤ cyI c ∧ cyI c < 12 := fun c hc => by unfold cxI cyI; omega
  have second : ∀ x0 y0 x1 y1 : Int, Mi (cpB (cel f)) cxI 144 x0 → Mi (cpB (cel f)) cyI 144 y0 → Mi (cpB (cel f)) (fun c => txV (t : Int) (cxI c) (cyI c)) 144 x1 → Mi (cpB (cel f)) (fun c => tyV (t : Int) (cxI c) (cyI c)) 144 y1 → L_1060_148 (t : Int) x0 y0 x1 y1 0 M Q := by
    intro x0 y0 x1 y1 m0 m1 m2 m3
    have hs := shp_sub ht m0 m1 m2 m3
    have r0 := m0.bd fun j hj _ => (rng j hj).1
    have r1 := m1.bd fun j hj _ => (rng j hj).2
    have r2 := m2.bd fun j hj _ => (tx_rng ht (rng j hj).1 (rng j hj).2).1
    have r3 := m3.bd fun j hj _ => (tx_rng ht (rng j hj).1 (rng j hj).2).2
    have key : ∀ s c : Nat, c + s = 144 → (∀ c', c' < c → cpB (cel f) c' = true → cel f (txV (t : Int) (cxI c') (cyI c') - x1 + x0) (tyV (t : Int) (cxI c') (cyI c') - y1 + y0) = true) → L_1060_148 (t : Int) x0 y0 x1 y1 (c : Int) M Q := by
      intro s
      induction s with
      | zero =>
        intro c hc hn
        have e : c = 144 := by omega
        refine s_1060_148 ⟨fun _ => ?_, fun h => by omega⟩
        rw [shB_t (hs.mpr (by rw [← e]; exact hn))] at hQ
        exact hQ
      | succ s ih =>
        intro c hc hn
        have hr := rng c (by omega)
        have ht2 := tx_rng ht hr.1 hr.2
        refine s_1060_148 ⟨fun h => by omega, fun _ => ⟨by omega, fun d ed => ⟨by omega, fun d1 ed1 => ?_⟩⟩⟩
        have e1 : d = cxI c := by rw [ed, tmod_p (by omega)]; unfold cxI; omega
        have e2 : d1 = cyI c := by rw [ed1, tdiv_p (by omega)]; unfold cyI; omega
        clear ed ed1
        subst e1
        subst e2
        rw [hW, hW]
        have nxt : (cpB (cel f) c = true → cel f (txV (t : Int) (cxI c) (cyI c) - x1 + x0) (tyV (t : Int) (cxI c) (cyI c) - y1 + y0) = true) → L_1060_148 (t : Int) x0 y0 x1 y1 ((c : Int) + 1) M Q := fun g => by
          have := ih (c + 1) (by omega) fun c' hc' hp => by
            by_cases q : c' = c
            · rw [q] at hp ⊢; exact g hp
            · exact hn c' (by omega) hp
          rwa [show ((c + 1 : Nat) : Int) = (c : Int) + 1 by omega] at this
        refine ⟨fun hz => ⟨by omega, nxt fun hp => ?_⟩, fun hz => ⟨by omega, by omega, by omega, by omega, fun hz2 => ⟨by omega, nxt fun _ => b2i_n.mp hz2⟩, fun hz2 => ?_⟩⟩
        · have : cpB (cel f) c = false := b2i_0.mp hz
          rw [this] at hp; cases hp
        · have hp : cpB (cel f) c = true := b2i_n.mp hz
          rw [shB_f (fun g => by
            have := hs.mp g c (by omega) hp
            rw [b2i_0.mp hz2] at this
            cases this)] at hQ
          exact hQ
    exact key 144 0 (by omega) fun c h => absurd h (Nat.not_lt_zero c)
  refine s_1060_0 ?_
  have first : ∀ (s c : Nat) (x0 y0 x1 y1 : Int), c + s = 144 → Mi (cpB (cel f)) cxI c x0 → Mi (cpB (cel f)) cyI c y0 → Mi (cpB (cel f)) (fun c => txV (t : Int) (cxI c) (cyI c)) c x1 → Mi (cpB (cel f)) (fun c => tyV (t : Int) (cxI c) (cyI c)) c y1 → L_1060_17 (t : Int) x0 y0 x1 y1 (c : Int) M Q := by
    intro s
    induction s with
    | zero =>
      intro c x0 y0 x1 y1 hc m0 m1 m2 m3
      have e : c = 144 := by omega
      subst e
      exact s_1060_17 ⟨fun _ => second x0 y0 x1 y1 m0 m1 m2 m3, fun h => by omega⟩
    | succ s ih =>
      intro c x0 y0 x1 y1 hc m0 m1 m2 m3
      have hr := rng c (by omega)
      refine s_1060_17 ⟨fun h => by omega, fun _ => ⟨by omega, fun d ed => ⟨by omega, fun d1 ed1 => ?_⟩⟩⟩
      have e1 : d = cxI c := by rw [ed, tmod_p (by omega)]; unfold cxI; omega
      have e2 : d1 = cyI c := by rw [ed1, tdiv_p (by omega)]; unfold cyI; omega
      clear ed ed1
      subst e1
      subst e2
      rw [hW]
      have nx := fun x0 y0 x1 y1 a b c' d' => ih (c + 1) x0 y0 x1 y1 (by omega) a b c' d'
      rw [show ((c + 1 : Nat) : Int) = (c : Int) + 1 by omega] at nx
      refine ⟨fun hz b eb b1 eb1 => ⟨by omega, ?_⟩, fun hz => ⟨by omega, ?_⟩⟩
      · have hp : cpB (cel f) c = true := b2i_n.mp hz
        have k0 : Mi (cpB (cel f)) cxI (c + 1) b := m0.y hp (by
          by_cases q : x0 ≤ cxI c
          · rw [if_pos q] at eb; exact Or.inl ⟨q, eb⟩
          · rw [if_neg q] at eb; exact Or.inr ⟨by omega, eb⟩)
        have k1 : Mi (cpB (cel f)) cyI (c + 1) b1 := m1.y hp (by
          by_cases q : y0 ≤ cyI c
          · rw [if_pos q] at eb1; exact Or.inl ⟨q, eb1⟩
          · rw [if_neg q] at eb1; exact Or.inr ⟨by omega, eb1⟩)
        refine ⟨fun h1 => ⟨by omega, fun h2 => ⟨by omega, ?_⟩, fun h2 => ⟨by omega, fun x ex => ⟨by omega, ?_⟩⟩⟩, fun h1 => ⟨by omega, fun x4 ex4 => ⟨by omega, fun h2 => ⟨by omega, ?_⟩, fun h2 => ⟨by omega, fun x ex => ⟨by omega, ?_⟩⟩⟩⟩⟩
        · exact nx _ _ _ _ k0 k1 (m2.y hp (Or.inl ⟨h1, rfl⟩)) (m3.y hp (Or.inl ⟨h2, rfl⟩))
        · exact nx _ _ _ _ k0 k1 (m2.y hp (Or.inl ⟨h1, rfl⟩)) (m3.y hp (Or.inr ⟨Int.le_of_lt h2, ex⟩))
        · exact nx _ _ _ _ k0 k1 (m2.y hp (Or.inr ⟨Int.le_of_lt h1, ex4⟩)) (m3.y hp (Or.inl ⟨h2, rfl⟩))
        · exact nx _ _ _ _ k0 k1 (m2.y hp (Or.inr ⟨Int.le_of_lt h1, ex4⟩)) (m3.y hp (Or.inr ⟨Int.le_of_lt h2, ex⟩))
      · have hp : cpB (cel f) c = false := b2i_0.mp hz
        exact nx _ _ _ _ (m0.n hp) (m1.n hp) (m2.n hp) (m3.n hp)
  exact first 144 0 99 99 99 99 (by omega) Mi.z Mi.z Mi.z Mi.z
theorem c1061_9 {f : Nat → Int} {M : Mm} {Q : Int → Mm → Prop} (hf : M.1 1101 0 = f) (hR : R12 f) (hQ : Q (symV (cel f)) M) : L_1061_9 0 0 M Q := by
  rw [sym_tr] at hQ
  have key : ∀ s t : Nat, t + s = 8 → L_1061_9 (cntB (fun t => shB (trA (cel f) t) (cel f)) t : Int) (t : Int) M Q := by
    intro s
    induction s with
    | zero =>
      intro t ht
      have e : t = 8 := by omega
      refine s_1061_9 ⟨fun _ => by rw [e]; exact hQ, fun h => by omega⟩
    | succ s ih =>
      intro t ht
      have hle := cntB_le (fun t => shB (trA (cel f) t) (cel f)) t
      refine s_1061_9 ⟨fun h => by omega, fun _ => c1060 (by omega) hf hR fun b eb => ?_⟩
      have hb : b = b2i (shB (trA (cel f) t) (cel f)) := by
        rw [eb]
        cases shB (trA (cel f) t) (cel f) <;> rfl
      have hb01 := b2i_c (shB (trA (cel f) t) (cel f))
      refine ⟨by omega, fun x ex => ⟨by omega, ?_⟩⟩
      have e : x = (cntB (fun t => shB (trA (cel f) t) (cel f)) (t + 1) : Int) := by
        rw [ex, hb]
        cases hs : shB (trA (cel f) t) (cel f) with
        | true => rw [cntB_y (b := fun t => shB (trA (cel f) t) (cel f)) hs]; rfl
        | false => rw [cntB_n (b := fun t => shB (trA (cel f) t) (cel f)) hs]; exact Int.add_zero _
      rw [e]
      have := ih (t + 1) (by omega)
      rwa [show ((t + 1 : Nat) : Int) = (t : Int) + 1 by omega] at this
  exact key 8 0 (by omega)

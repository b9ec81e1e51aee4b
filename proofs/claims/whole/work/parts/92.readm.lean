/-! running the commands; the reference reads and runs -/
theorem msk_hi {x w : Int} (hx : 0 ≤ x) (hw : 0 ≤ w) (hxw : x + w ≤ 12) {b : Nat} (hb : 12 ≤ b) : bZ (mskV x w) b = false := by
  obtain ⟨k, rfl⟩ : ∃ k : Nat, x = k := ⟨x.toNat, by omega⟩
  obtain ⟨n, rfl⟩ : ∃ n : Nat, w = n := ⟨w.toNat, by omega⟩
  unfold mskV
  rw [bZ_shl (by omega)]
  have h1 : ish 1 (n : Int) = ((2 ^ n : Nat) : Int) := of_decide_eq_true (List.all_eq_true.mp ish1_b n (List.mem_range.mpr (by omega)))
  have h2 := ish1 (k := (n : Int)) (by omega) (by omega)
  have e : bZ (ish 1 (n : Int) - 1) (b - k) = false := by
    rw [bZ_nat (by omega) (by omega), h1, show (((2 ^ n : Nat) : Int) - 1).toNat = 2 ^ n - 1 by omega, Nat.testBit_two_pow_sub_one]
    exact decide_eq_false (by omega)
  rw [e, Bool.and_false, Bool.and_false]
theorem cmb_12 {o r m : Int} (hr : 0 ≤ r ∧ r < 4096) (hm : ∀ b, 12 ≤ b → bZ m b = false) : 0 ≤ cmbV o r m ∧ cmbV o r m < 4096 := by
  unfold cmbV
  split
  · exact lt12 (ti_in _) fun b hb => by rw [bZ_or, bZ_hi hr.1 hr.2 hb, hm b hb]; rfl
  · split
    · exact lt12 (ti_in _) fun b hb => by rw [bZ_and, bZ_hi hr.1 hr.2 hb]; rfl
    · exact lt12 (ti_in _) fun b hb => by rw [bZ_xor, bZ_hi hr.1 hr.2 hb, hm b hb]; rfl
theorem ch_12 {o x y w h : Int} {f : Nat → Int} (hR : R12 f) (hx : 0 ≤ x) (hw : 0 ≤ w) (hxw : x + w ≤ 12) : R12 (chV o x y w h f) := by
  intro q hq
  unfold chV
  split
  · exact cmb_12 (hR q hq) fun b hb => msk_hi hx hw hxw hb
  · exact hR q hq
theorem cmR_12 {c : Int × Int × Int × Int × Int} {f : Nat → Int} (hR : R12 f) (hc : CmOk c) : R12 (cmR c f) := by
  unfold cmR
  split
  · exact tq_12 f
  · next h3 =>
    split
    · exact mq_12 f
    · next h4 =>
      obtain ⟨h0, hk⟩ := hc
      have := hk (by omega)
      exact ch_12 hR (by omega) (by omega) (by omega)
theorem runL_12 : ∀ {l : List (Int × Int × Int × Int × Int)} {f : Nat → Int}, R12 f → (∀ c, c ∈ l → CmOk c) → R12 (runL l f)
  | [], _, h, _ => h
  | c :: l, _, h, hc => runL_12 (l := l) (cmR_12 h (hc c List.mem_cons_self)) fun d hd => hc d (List.mem_cons_of_mem _ hd)
theorem c405 {i : Nat} {o x y w h : Int} {M : Mm} {Q : Mm → Prop} (hx : 0 ≤ x) (hy : 0 ≤ y) (hw : 0 ≤ w) (hh : 0 ≤ h) (hxw : x + w ≤ 12) (hyh : y + h ≤ 12) (hQ : ∀ M', Fx (fun t j => t = 500 ∧ j = i) M M' → (∀ q, q < 12 → M'.1 500 i q = chV o x y w h (M.1 500 i) q) → Q M') : E_405 i o x y w h M Q := by
  refine Ev.mono (e405 hx hy hw hh hxw hyh) fun v M' g => ⟨g.2, hQ M' (by rw [g.1]; exact Fx.setA ⟨rfl, rfl⟩) fun q hq => ?_⟩
  rw [g.1, setA_at]
  exact if_pos hq
theorem c612 {i : Nat} {M : Mm} {Q : Mm → Prop} : ∀ (l : List (Int × Int × Int × Int × Int)) (n : Nat), M.1 6 0 5 = (n + l.length : Nat) → n + l.length ≤ 30 → RwL (M.1 701 0) n l → ∀ M', Fx (fun t j => (t = 500 ∨ t = 501) ∧ j = i) M M' → R12 (M'.1 500 i) → (∀ M2, Fx (fun t j => (t = 500 ∨ t = 501) ∧ j = i) M M2 → (∀ y, y < 12 → M2.1 500 i y = runL l (M'.1 500 i) y) → R12 (M2.1 500 i) → Q M2) → L_612_2 i (n : Int) M' Q := by
  intro l
  induction l with
  | nil =>
    intro n h5 h30 hl M' hf hR hQ
    have h5' : M'.1 6 0 5 = n := by rw [(hf 6 0 (by omega)).1]; exact h5
    exact s_612_2 ⟨fun _ => hQ M' hf (fun _ _ => rfl) hR, fun h => by omega⟩
  | cons c l ih =>
    intro n h5 h30 hl M' hf hR hQ
    rw [List.length_cons] at h5 h30
    have h5' : M'.1 6 0 5 = (n + (l.length + 1) : Nat) := by rw [(hf 6 0 (by omega)).1]; exact h5
    have h7 : M'.1 701 0 = M.1 701 0 := (hf 701 0 (by omega)).1
    obtain ⟨⟨r0, r1⟩, hc⟩ := hl 0 c List.getElem?_cons_zero
    rw [Nat.add_zero] at r0 r1
    have nx : ∀ M2 : Mm, Fx (fun t j => (t = 500 ∨ t = 501) ∧ j = i) M' M2 → (∀ y, y < 12 → M2.1 500 i y = cmR c (M'.1 500 i) y) → L_612_2 i ((n : Int) + 1) M2 Q := fun M2 f2 g2 => by
      have hR2 : R12 (M2.1 500 i) := (cmR_12 hR hc).cg g2
      have := ih (n + 1) (by rw [h5]; omega) (by omega) (fun t d ht => by
        have := hl (t + 1) d (by rw [List.getElem?_cons_succ]; exact ht)
        rwa [show n + (t + 1) = n + 1 + t by omega] at this) M2 (hf.tr f2) hR2 fun M3 f3 g3 r3 => hQ M3 f3 (fun y hy => by
        rw [g3 y hy]
        exact runL_cg (l := l) g2 y hy) r3
      rwa [show ((n + 1 : Nat) : Int) = (n : Int) + 1 by omega] at this
    refine s_612_2 ⟨fun h => by omega, fun _ => ⟨by omega, fun x3 e3 x4 e4 => ?_⟩⟩
    have a3 : x3 = ((5 * n : Nat) : Int) := by omega
    have a4 : x4 = c.1 := by rw [e4, a3, atN_in (by omega), h7]; exact r0
    rw [a4]
    refine ⟨fun h3 => ⟨fun h4 => ⟨by omega, by omega, by omega, by omega, ?_⟩, fun h4 => ?_⟩, fun h3 => ?_⟩
    · have hk := hc.2 (by have := hc.1; omega)
      obtain ⟨p1, p2, p3, p4⟩ := r1 (by have := hc.1; omega)
      simp only [Nat.add_zero] at p1 p2 p3 p4
      rw [a3, show ((5 * n : Nat) : Int) + 1 = ((5 * n + 1 : Nat) : Int) by omega, show ((5 * n : Nat) : Int) + 2 = ((5 * n + 2 : Nat) : Int) by omega, show ((5 * n : Nat) : Int) + 3 = ((5 * n + 3 : Nat) : Int) by omega, show ((5 * n : Nat) : Int) + 4 = ((5 * n + 4 : Nat) : Int) by omega, atN_in (by omega), atN_in (by omega), atN_in (by omega), atN_in (by omega), h7, p1, p2, p3, p4]
      refine c405 (by omega) (by omega) (by omega) (by omega) (by omega) (by omega) fun M2 f2 g2 => ⟨by omega, nx M2 (f2.up fun t j g => ⟨Or.inl g.1, g.2⟩) fun y hy => ?_⟩
      rw [g2 y hy]
      unfold cmR
      rw [if_neg h3, if_neg h4]
    · refine c408 hR fun M2 f2 g2 => ⟨by omega, nx M2 (f2.up fun t j g => ⟨Or.inl g.1, g.2⟩) fun y hy => ?_⟩
      rw [g2 y hy]
      unfold cmR
      rw [if_neg h3, if_pos h4]
    · refine c407 hR fun M2 f2 g2 => ⟨by omega, nx M2 f2 fun y hy => ?_⟩
      rw [g2 y hy]
      unfold cmR
      rw [if_pos h3]
/-! the reference reads -/
def St10 (M : Mm) (s : Nat → Int) (len : Nat) (r : Nat ⊕ Nat) : Prop := M.1 1110 0 = s ∧ M.1 10 0 11 = len ∧ match r with
  | .inl e => M.1 10 0 14 = (e : Int)
  | .inr p => M.1 10 0 14 = -1 ∧ M.1 10 0 13 = (p : Int) ∧ p ≤ len
theorem lt_chr {s : Nat → Int} {len p : Nat} : (p < len ∧ ltV s (p : Int) (len : Int) = chr s len p) ∨ (len ≤ p ∧ ltV s (p : Int) (len : Int) = -1 ∧ chr s len p = 0) := by
  unfold ltV chr
  by_cases q : p < len
  · rw [if_pos (by omega), if_pos q, Int.toNat_natCast]; exact Or.inl ⟨q, rfl⟩
  · rw [if_neg (by omega), if_neg q]; exact Or.inr ⟨by omega, rfl, rfl⟩
def S34 (q : Nat) : Prop := q = 13 ∨ q = 14
theorem c1018 {c : Int} {s : Nat → Int} {len : Nat} {r : Nat ⊕ Nat} {M : Mm} {Q : Mm → Prop} (hc : 0 < c) (h60 : len ≤ 60) (hT : St10 M s len r) (hQ : ∀ M', R10 S34 M M' → St10 M' s len (sgR s len r c) → Q M') : E_1018 c M Q := by
  obtain ⟨t1, t2, t3⟩ := hT
  cases r with
  | inl e =>
    have t3 : M.1 10 0 14 = (e : Int) := t3
    exact s_1018_0 ⟨fun h => by omega, fun _ => hQ M R10.rf ⟨t1, t2, t3⟩⟩
  | inr p =>
    obtain ⟨a1, a2, a3⟩ : M.1 10 0 14 = -1 ∧ M.1 10 0 13 = (p : Int) ∧ p ≤ len := t3
    have hl := lt_chr (s := s) (len := len) (p := p)
    refine s_1018_0 ⟨fun _ => ?_, fun h => by omega⟩
    rw [a2, t2, t1]
    refine ⟨by omega, fun hne M1 e1 => ?_, fun heq => ⟨by omega, fun M1 e1 => ?_⟩⟩
    · have e : sgR s len (.inr p) c = .inl p := if_neg (by omega)
      have := hQ M1 (by rw [e1]; exact R10.set (Or.inr rfl))
      rw [e] at this
      exact this ⟨by rw [e1, setI_ne (by omega)]; exact t1, by rw [e1, setI_at, ups_ne (by omega)]; exact t2, by show M1.1 10 0 14 = (p : Int); rw [e1, setI_at, ups_at]⟩
    · have e : sgR s len (.inr p) c = .inr (p + 1) := if_pos (by omega)
      have := hQ M1 (by rw [e1]; exact R10.set (Or.inl rfl))
      rw [e] at this
      exact this ⟨by rw [e1, setI_ne (by omega)]; exact t1, by rw [e1, setI_at, ups_ne (by omega)]; exact t2, by rw [e1, setI_at, ups_ne (by omega)]; exact a1, by rw [e1, setI_at, ups_at]; omega, by omega⟩
theorem dg_lt2 {s : Nat → Int} {len p : Nat} : (inV (ltV s (p : Int) (len : Int)) 48 57 = 0 ∧ dgV (chr s len p) = -1) ∨ (inV (ltV s (p : Int) (len : Int)) 48 57 = 1 ∧ p < len ∧ 0 ≤ dgV (chr s len p) ∧ dgV (chr s len p) ≤ 9 ∧ ltV s (p : Int) (len : Int) - 48 = dgV (chr s len p)) := by
  have h1 := lt_chr (s := s) (len := len) (p := p)
  have h2 := dg_c (chr s len p)
  have h3 := inV_p (ltV s (p : Int) (len : Int)) 48 57
  omega
theorem c1019 {lo hi : Int} {s : Nat → Int} {len : Nat} {r : Nat ⊕ Nat} {M : Mm} {Q : Int → Mm → Prop} (hlo : 0 ≤ lo ∧ lo ≤ 1) (h60 : len ≤ 60) (hT : St10 M s len r) (hQ : ∀ M' v, R10 S34 M M' → St10 M' s len (fsR (nmR s len r lo hi)) → (∀ a, nmR s len r lo hi = .inr a → v = a.2) → 0 ≤ v ∧ v ≤ 99 → Q v M') : E_1019 lo hi M Q := by
  obtain ⟨t1, t2, t3⟩ := hT
  cases r with
  | inl e =>
    have t3 : M.1 10 0 14 = (e : Int) := t3
    exact s_1019_0 ⟨fun h => by omega, fun _ => hQ M lo R10.rf ⟨t1, t2, t3⟩ (fun a h => by cases h) (by omega)⟩
  | inr p =>
    obtain ⟨a1, a2, a3⟩ : M.1 10 0 14 = -1 ∧ M.1 10 0 13 = (p : Int) ∧ p ≤ len := t3
    have hn : nmR s len (.inr p) lo hi = nmP s len p lo hi := rfl
    rw [hn] at hQ
    have b1 := dg_lt2 (s := s) (len := len) (p := p)
    have b2 := dg_lt2 (s := s) (len := len) (p := p + 1)
    have bad : ∀ (M1 M2 : Mm), R10 S34 M M1 → M2 = setI M1 10 0 14 (p : Int) → nmP s len p lo hi = .inl p → Q lo M2 := fun M1 M2 f1 e2 e => by
      have := hQ M2 lo (f1.tr (by rw [e2]; exact R10.set (Or.inr rfl)))
      rw [e] at this
      exact this ⟨by rw [e2, setI_ne (by omega), (f1.1 1110 0 (by omega)).1]; exact t1, by rw [e2, setI_at, ups_ne (by omega), f1.2 11 (by unfold S34; omega)]; exact t2, by show M2.1 10 0 14 = (p : Int); rw [e2, setI_at, ups_at]⟩ (fun a h => by cases h) (by omega)
    refine s_1019_0 ⟨fun _ x3 e3 => ?_, fun h => by omega⟩
    rw [a2] at e3
    subst e3
    rw [a2, t2, t1]
    refine ⟨by omega, fun h0 => ⟨by omega, by omega, fun x4 e4 => ⟨by omega, fun M1 e1 => ?_⟩⟩, fun h0 M1 e1 => ?_⟩
    · obtain ⟨-, hl, d0, d9, d48⟩ : inV (ltV s (p : Int) (len : Int)) 48 57 = 1 ∧ p < len ∧ 0 ≤ dgV (chr s len p) ∧ dgV (chr s len p) ≤ 9 ∧ ltV s (p : Int) (len : Int) - 48 = dgV (chr s len p) := by
        rcases b1 with b1 | b1
        · exact absurd b1.1 h0
        · exact b1
      rw [d48] at e4
      subst e4
      have f1 : R10 S34 M M1 := by rw [e1]; exact R10.set (Or.inl rfl)
      have q2 : M1.1 10 0 13 = ((p + 1 : Nat) : Int) := by rw [e1, setI_at, ups_at]; omega
      have q3 : M1.1 10 0 11 = len := by rw [f1.2 11 (by unfold S34; omega)]; exact t2
      have q4 : M1.1 10 0 14 = -1 := by rw [e1, setI_at, ups_ne (by omega)]; exact a1
      have q7 : M1.1 1110 0 = s := by rw [(f1.1 1110 0 (by omega)).1]; exact t1
      have one : ¬ (dgV (chr s len p) ≠ 0 ∧ 0 ≤ dgV (chr s len (p + 1))) → (inV (dgV (chr s len p)) lo hi ≠ 0 → Q (dgV (chr s len p)) M1) ∧ (inV (dgV (chr s len p)) lo hi = 0 → ∀ M2 : Mm, M2 = setI M1 10 0 14 (p : Int) → Q lo M2) := fun hno => by
        have e : nmP s len p lo hi = if lo ≤ dgV (chr s len p) ∧ dgV (chr s len p) ≤ hi then .inr (p + 1, dgV (chr s len p)) else .inl p := by
          unfold nmP
          rw [if_neg (by omega), if_neg hno]
        have hv := inV_p (dgV (chr s len p)) lo hi
        refine ⟨fun h => ?_, fun h M2 e2 => bad M1 M2 f1 e2 (by rw [e, if_neg (by omega)])⟩
        rw [if_pos (by omega)] at e
        have := hQ M1 (dgV (chr s len p)) f1
        rw [e] at this
        exact this ⟨q7, q3, q4, q2, hl⟩ (fun a h => by cases h; rfl) (by omega)
      refine ⟨fun hz => one fun g => g.1 hz, fun hne => ?_⟩
      rw [q7, q2, q3]
      refine ⟨by omega, fun h5 => one fun g => by omega, fun h5 => ⟨by omega, by omega, by omega, fun x6 e6 => ⟨by omega, fun M2 e2 => ?_⟩⟩⟩
      obtain ⟨-, hl2, d0', d9', d48'⟩ : inV (ltV s ((p + 1 : Nat) : Int) (len : Int)) 48 57 = 1 ∧ p + 1 < len ∧ 0 ≤ dgV (chr s len (p + 1)) ∧ dgV (chr s len (p + 1)) ≤ 9 ∧ ltV s ((p + 1 : Nat) : Int) (len : Int) - 48 = dgV (chr s len (p + 1)) := by
        rcases b2 with b2 | b2
        · exact absurd b2.1 h5
        · exact b2
      have e6' : x6 = 10 * dgV (chr s len p) + dgV (chr s len (p + 1)) := by omega
      have e : nmP s len p lo hi = if lo ≤ 10 * dgV (chr s len p) + dgV (chr s len (p + 1)) ∧ 10 * dgV (chr s len p) + dgV (chr s len (p + 1)) ≤ hi then .inr (p + 2, 10 * dgV (chr s len p) + dgV (chr s len (p + 1))) else .inl p := by
        unfold nmP
        rw [if_neg (by omega), if_pos ⟨hne, d0'⟩]
      rw [← e6'] at e
      have hv := inV_p x6 lo hi
      have f2 : R10 S34 M M2 := f1.tr (by rw [e2]; exact R10.set (Or.inl rfl))
      refine ⟨fun h => ?_, fun h M3 e3 => bad M2 M3 f2 e3 (by rw [e, if_neg (by omega)])⟩
      rw [if_pos (by omega)] at e
      have := hQ M2 x6 f2
      rw [e] at this
      exact this ⟨by rw [(f2.1 1110 0 (by omega)).1]; exact t1, by rw [f2.2 11 (by unfold S34; omega)]; exact t2, by rw [e2, setI_at, ups_ne (by omega)]; exact q4, by rw [e2, setI_at, ups_at]; show ((p + 1 : Nat) : Int) + 1 = ((p + 2 : Nat) : Int); omega, hl2⟩ (fun a h => by cases h; rfl) (by omega)
    · rcases b1 with b1 | b1
      · exact bad M M1 R10.rf e1 (by unfold nmP; rw [if_pos (by omega)])
      · omega

/-! clearance; the shortest path -/
theorem lsE_y {b : Nat → Bool} {n : Nat} (h : b n = true) : lsE b (n + 1) = n := if_pos h
theorem lsE_n {b : Nat → Bool} {n : Nat} (h : b n = false) : lsE b (n + 1) = lsE b n := if_neg (by rw [h]; decide)
/-- the quarter cell of a cell's sample -/
def smp (x y : Nat) : Nat := 48 * (4 * y + 1) + 4 * x
theorem smp_lt {x y : Nat} (hx : x < 12) (hy : y < 12) : smp x y < 2304 := by unfold smp; omega
/-- are two quarter cells in one component of phase p -/
noncomputable def cmB (f : Nat → Int) (q r p : Nat) : Bool := @decide (0 ≤ lb (PK f p) q ∧ lb (PK f p) q = lb (PK f p) r) inferInstance
theorem c530 {f : Nat → Int} {N q r : Nat} {M : Mm} {Q : Int → Mm → Prop} (hF : FrC M f N) (hq : q < 2304) (hr : r < 2304) (hQ : Q (lsE (cmB f q r) N) M) : E_530 (q : Int) (r : Int) M Q := by
  have h12 := hF.1.le
  have h11 := hF.2.1.1.1
  have key : ∀ n : Nat, n ≤ N → lsE (cmB f q r) N = lsE (cmB f q r) n → L_530_7 (q : Int) (r : Int) ((n : Int) - 1) M Q := by
    intro n
    induction n with
    | zero =>
      intro hn he
      refine s_530_7 ⟨fun _ => ?_, fun h => by omega⟩
      rw [he] at hQ
      exact hQ
    | succ n ih =>
      intro hn he
      have hph := (hF.2.2.1 n (by omega)).1
      have ep : phV (M.1 5 0 11) (n : Int) = n := by rw [h11]; exact phV_in (by omega) (by omega)
      rw [show ((n + 1 : Nat) : Int) - 1 = n by omega]
      refine s_530_7 ⟨fun h => by omega, fun _ => ?_⟩
      rw [ep]
      have nx : cmB f q r n = false → L_530_7 (q : Int) (r : Int) ((n : Int) + (-1)) M Q := fun hb => by
        have := ih (by omega) (he.trans (lsE_n hb))
        rwa [show (n : Int) - 1 = (n : Int) + (-1) by omega] at this
      refine c311 hph hq ⟨fun h => ⟨by omega, nx (decide_eq_false fun g => by omega)⟩, fun h0 => ?_⟩
      rw [ep]
      refine c311 hph hr ⟨fun hne => ⟨by omega, nx (decide_eq_false fun g => hne g.2)⟩, fun heq => ?_⟩
      rw [he, lsE_y (decide_eq_true ⟨h0, heq⟩)] at hQ
      exact hQ
  refine s_530_0 ⟨by omega, fun x ex => ?_⟩
  rw [ex, h11]
  exact key N (Nat.le_refl N) rfl
theorem c1084_39 {f : Nat → Int} {N x y u v : Nat} {M : Mm} {Q : Int → Mm → Prop} (hF : FrM M f N) (hx : x < 12) (hy : y < 12) (hu : u < 12) (hv : v < 12) (hQ : Q (lsE (cmB f (smp x y) (smp u v)) N) M) : L_1084_39 (x : Int) (y : Int) (u : Int) (v : Int) (-1) 0 M Q := by
  have h12 := hF.1.le
  have h18 := hF.2.1.1.1
  have key : ∀ s p : Nat, p + s = N → L_1084_39 (x : Int) (y : Int) (u : Int) (v : Int) (lsE (cmB f (smp x y) (smp u v)) p) (p : Int) M Q := by
    intro s
    induction s with
    | zero =>
      intro p hp
      have e : p = N := by omega
      refine s_1084_39 ⟨fun _ => by rw [e]; exact hQ, fun h => by omega⟩
    | succ s ih =>
      intro p hp
      have hl := (hF.2.2.2.1 p (by omega)).2.2
      have nx := ih (p + 1) (by omega)
      rw [show ((p + 1 : Nat) : Int) = (p : Int) + 1 by omega] at nx
      have e1 : (2304 * (p : Int) + 48 * (4 * (y : Int) + 1) + 4 * (x : Int)).toNat = 2304 * p + smp x y := by unfold smp; omega
      have e2 : (2304 * (p : Int) + 48 * (4 * (v : Int) + 1) + 4 * (u : Int)).toNat = 2304 * p + smp u v := by unfold smp; omega
      refine s_1084_39 ⟨fun h => by omega, fun _ => ⟨by omega, fun x7 e7 => ?_⟩⟩
      rw [e1, hl _ (smp_lt hx hy)] at e7
      rw [e2, hl _ (smp_lt hu hv)]
      refine ⟨fun h => ⟨by omega, ?_⟩, fun h => ⟨by omega, fun b eb => ⟨by omega, ?_⟩⟩⟩
      · rw [lsE_n (decide_eq_false fun g => by omega)] at nx
        exact nx
      · by_cases q : x7 = lb (PK f p) (smp u v)
        · rw [if_neg (fun g => g q)] at eb
          rw [lsE_y (decide_eq_true ⟨by omega, by omega⟩)] at nx
          rw [eb]; exact nx
        · rw [if_pos q] at eb
          rw [lsE_n (decide_eq_false fun g => q (by omega))] at nx
          rw [eb]; exact nx
  exact key N 0 (by omega)
/-! a search by steps: steps, queue, how many -/
abbrev SQ : Type := (Nat → Int) × (Nat → Int) × Nat
def dnx (x d : Nat) : Int := ((x % 48 : Nat) : Int) + dX d
def dny (x d : Nat) : Int := ((x / 48 : Nat) : Int) + dY d
def dstep (P : Int → Int → Bool) (x d : Nat) (s : SQ) : SQ := if P (dnx x d) (dny x d) = true ∧ s.1 (48 * dny x d + dnx x d).toNat < 0 then (ups s.1 (48 * dny x d + dnx x d).toNat (s.1 x + 1), ups s.2.1 s.2.2 (48 * dny x d + dnx x d), s.2.2 + 1) else s
def rnd (P : Int → Int → Bool) (x : Nat) (s : SQ) : SQ := dstep P x 3 (dstep P x 2 (dstep P x 1 (dstep P x 0 s)))
def srch (P : Int → Int → Bool) : Nat → Nat → SQ → SQ
  | 0, _, s => s
  | F + 1, h, s => if h < s.2.2 then srch P F (h + 1) (rnd P (s.2.1 h).toNat s) else s
def SI (s : SQ) : Prop := s.2.2 = cl s.1 2304 ∧ (∀ i, i < s.2.2 → ∃ v : Nat, v < 2304 ∧ s.2.1 i = v ∧ 0 ≤ s.1 v) ∧ ∀ q, q < 2304 → s.1 q < s.2.2
theorem SI.le {s : SQ} (h : SI s) : s.2.2 ≤ 2304 := by rw [h.1]; exact cl_le _ _
theorem dstep_n {P : Int → Int → Bool} {x d : Nat} {s : SQ} (h : ¬ (P (dnx x d) (dny x d) = true ∧ s.1 (48 * dny x d + dnx x d).toNat < 0)) : dstep P x d s = s := if_neg h
theorem dstep_y {P : Int → Int → Bool} {x d : Nat} {s : SQ} (h : P (dnx x d) (dny x d) = true ∧ s.1 (48 * dny x d + dnx x d).toNat < 0) : dstep P x d s = (ups s.1 (48 * dny x d + dnx x d).toNat (s.1 x + 1), ups s.2.1 s.2.2 (48 * dny x d + dnx x d), s.2.2 + 1) := if_pos h
theorem dn_lt {P : Int → Int → Bool} (hg : InG P) {x d : Nat} (h : P (dnx x d) (dny x d) = true) : 0 ≤ 48 * dny x d + dnx x d ∧ 48 * dny x d + dnx x d < 2304 := by
  have := hg _ _ h
  omega
theorem SI.st {P : Int → Int → Bool} (hg : InG P) {x d : Nat} {s : SQ} (h : SI s) (hx : x < 2304) (h0 : 0 ≤ s.1 x) : SI (dstep P x d s) ∧ 0 ≤ (dstep P x d s).1 x := by
  by_cases q : P (dnx x d) (dny x d) = true ∧ s.1 (48 * dny x d + dnx x d).toNat < 0
  · rw [dstep_y q]
    obtain ⟨h1, h2, h3⟩ := h
    have hl := dn_lt hg q.1
    obtain ⟨v, hv⟩ : ∃ v : Nat, 48 * dny x d + dnx x d = v := ⟨(48 * dny x d + dnx x d).toNat, by omega⟩
    rw [hv] at hl q ⊢
    rw [Int.toNat_natCast] at q ⊢
    have hxv : x ≠ v := fun e => by rw [e] at h0; omega
    have hx3 := h3 x hx
    have hc : cl (ups s.1 v (s.1 x + 1)) 2304 = cl s.1 2304 + 1 := cl_up (k := v) (by omega) q.2 (by rw [ups_at]; omega) fun y _ hy => ups_ne hy
    refine ⟨⟨by rw [hc, ← h1], fun i hi => ?_, fun y hy => ?_⟩, ?_⟩
    · by_cases e : i = s.2.2
      · exact ⟨v, by omega, by show ups s.2.1 s.2.2 (v : Int) i = v; rw [e, ups_at], by show 0 ≤ ups s.1 v (s.1 x + 1) v; rw [ups_at]; omega⟩
      · have hi' : i < s.2.2 + 1 := hi
        obtain ⟨w, w1, w2, w3⟩ := h2 i (by omega)
        have hwv : w ≠ v := fun e => by rw [e] at w3; omega
        exact ⟨w, w1, by show ups s.2.1 s.2.2 (v : Int) i = w; rw [ups_ne e]; exact w2, by show 0 ≤ ups s.1 v (s.1 x + 1) w; rw [ups_ne hwv]; exact w3⟩
    · show ups s.1 v (s.1 x + 1) y < ((s.2.2 + 1 : Nat) : Int)
      by_cases e : y = v
      · rw [e, ups_at]; omega
      · rw [ups_ne e]
        have := h3 y hy
        omega
    · show 0 ≤ ups s.1 v (s.1 x + 1) x
      rw [ups_ne hxv]; exact h0
  · rw [dstep_n q]
    exact ⟨h, h0⟩
/-- steps and queue as they stand in memory -/
def Ag (M : Mm) (t t' : Nat) (s : SQ) : Prop := (∀ v, v < 2304 → M.1 t 0 v = s.1 v) ∧ ∀ j, j < s.2.2 → M.1 t' 0 j = s.2.1 j
theorem sXd {d : Nat} (h : d < 4) : stepXV (d : Int) = dX d ∧ stepYV (d : Int) = dY d := by
  rcases (show d = 0 ∨ d = 1 ∨ d = 2 ∨ d = 3 by omega) with rfl | rfl | rfl | rfl <;> exact ⟨by decide, by decide⟩
def T801 (t j : Nat) : Prop := (t = 900 ∨ t = 901) ∧ j = 0
theorem st801 {i x d : Nat} {q r h : Int} {s : SQ} {P : Int → Int → Bool} {M : Mm} {Q : Int → Mm → Prop} (hg : InG P) (hR : Rep (M.2 401 i) P) (hx : x < 2304) (hd : d < 4) (hs : SI s) (h0 : 0 ≤ s.1 x) (ha : Ag M 901 900 s) (hQ : ∀ M', Fx T801 M M' → Ag M' 901 900 (dstep P x d s) → L_801_71 i q r ((dstep P x d s).2.2 : Int) h (x : Int) ((d : Int) + 1) M' Q) : L_801_71 i q r (s.2.2 : Int) h (x : Int) (d : Int) M Q := by
  have hle := hs.le
  have hdd := dXY d hd
  have hs3 := hs.2.2 x hx
  obtain ⟨k1, k2⟩ := sXd hd
  refine s_801_71 ⟨fun h => by omega, fun _ => ⟨by omega, fun a ea => ?_⟩⟩
  rw [tmod_p (by omega)] at ea
  rw [k1, k2]
  refine ⟨by omega, fun x8 e8 => ⟨by omega, fun b eb => ?_⟩⟩
  rw [tdiv_p (by omega)] at eb
  refine ⟨by omega, fun x9 e9 => ⟨⟨by omega, by omega⟩, fun x10 e10 => ?_⟩⟩
  have e8' : x8 = dnx x d := by unfold dnx; omega
  have e9' : x9 = dny x d := by unfold dny; omega
  clear e8 e9 ea eb k1 k2 hdd
  subst e8'
  subst e9'
  rw [covV_P hg hR]
  refine ⟨fun hz => ⟨by omega, ?_⟩, fun hz => ?_⟩
  · have hp := b2i_0.mp hz
    have en : dstep P x d s = s := dstep_n fun g => by rw [hp] at g; exact absurd g.1 (by decide)
    rw [en] at hQ
    exact hQ M Fx.rf ha
  · have hp := b2i_n.mp hz
    have hl := dn_lt hg hp
    obtain ⟨v, hv⟩ : ∃ v : Nat, 48 * dny x d + dnx x d = v := ⟨(48 * dny x d + dnx x d).toNat, by omega⟩
    have e10' : x10 = v := by omega
    subst e10'
    rw [atN_i (j := (v : Int)) (by omega) (by omega), atN_i (j := (x : Int)) (by omega) (by omega), Int.toNat_natCast, Int.toNat_natCast, ha.1 v (by omega), ha.1 x hx]
    refine ⟨fun hz2 => ⟨by omega, ?_⟩, fun hz2 => ⟨by omega, fun M1 e1 M2 e2 => ⟨⟨by omega, by omega⟩, ?_⟩⟩⟩
    · have en : dstep P x d s = s := dstep_n fun g => by
        have := g.2
        rw [hv, Int.toNat_natCast] at this
        omega
      rw [en] at hQ
      exact hQ M Fx.rf ha
    · have en := dstep_y (P := P) (x := x) (d := d) (s := s) ⟨hp, by rw [hv, Int.toNat_natCast]; exact hz2⟩
      rw [hv, Int.toNat_natCast] at en
      rw [en] at hQ
      have q1 : M2.1 901 0 = putN 2304 (M.1 901 0) (v : Int) (s.1 x + 1) := by rw [e2, setA_ne (by omega), e1, setA_at]
      have q2 : M2.1 900 0 = putN 2304 (M.1 900 0) (s.2.2 : Int) (v : Int) := by rw [e2, setA_at, e1, setA_ne (by omega)]
      have ht : s.2.2 < 2304 := by
        have hc : cl (ups s.1 v (s.1 x + 1)) 2304 = cl s.1 2304 + 1 := cl_up (k := v) (by omega) hz2 (by rw [ups_at]; omega) fun y _ hy => ups_ne hy
        have := cl_le (ups s.1 v (s.1 x + 1)) 2304
        have := hs.1
        omega
      have := hQ M2 (by rw [e2, e1]; exact (Fx.setA ⟨by omega, rfl⟩).tr (Fx.setA ⟨by omega, rfl⟩)) ⟨fun y hy => ?_, fun j hj => ?_⟩
      · exact this
      · rw [q1]
        show _ = ups s.1 v (s.1 x + 1) y
        by_cases e : y = v
        · rw [e, ups_at, putN_at (by omega) rfl]
        · rw [ups_ne e, putN_ne (by omega)]; exact ha.1 y hy
      · have hj' : j < s.2.2 + 1 := hj
        rw [q2]
        show _ = ups s.2.1 s.2.2 (v : Int) j
        by_cases e : j = s.2.2
        · rw [e, ups_at, putN_at (by omega) rfl]
        · rw [ups_ne e, putN_ne (by omega)]; exact ha.2 j (by omega)
theorem SI.rn {P : Int → Int → Bool} (hg : InG P) {x : Nat} {s : SQ} (h : SI s) (hx : x < 2304) (h0 : 0 ≤ s.1 x) : SI (rnd P x s) := by
  obtain ⟨a1, a2⟩ := h.st hg (d := 0) hx h0
  obtain ⟨b1, b2⟩ := a1.st hg (d := 1) hx a2
  obtain ⟨c1, c2⟩ := b1.st hg (d := 2) hx b2
  exact (c1.st hg (d := 3) hx c2).1
theorem rn801 {i x : Nat} {q r h : Int} {s : SQ} {P : Int → Int → Bool} {M : Mm} {Q : Int → Mm → Prop} (hg : InG P) (hR : Rep (M.2 401 i) P) (hx : x < 2304) (hh : 0 ≤ h ∧ h < 2304) (hs : SI s) (h0 : 0 ≤ s.1 x) (ha : Ag M 901 900 s) (hQ : ∀ M', Fx T801 M M' → Ag M' 901 900 (rnd P x s) → L_801_42 i q r ((rnd P x s).2.2 : Int) (h + 1) M' Q) : L_801_71 i q r (s.2.2 : Int) h (x : Int) 0 M Q := by
  have keep : ∀ {M M' : Mm}, Fx T801 M M' → Rep (M.2 401 i) P → Rep (M'.2 401 i) P := fun f g => by rw [(f 401 i (by unfold T801; omega)).2]; exact g
  obtain ⟨a1, a2⟩ := hs.st hg (d := 0) hx h0
  obtain ⟨b1, b2⟩ := a1.st hg (d := 1) hx a2
  obtain ⟨c1, c2⟩ := b1.st hg (d := 2) hx b2
  refine st801 (d := 0) hg hR hx (by omega) hs h0 ha fun M1 f1 g1 => ?_
  refine st801 (d := 1) hg (keep f1 hR) hx (by omega) a1 a2 g1 fun M2 f2 g2 => ?_
  refine st801 (d := 2) hg (keep f2 (keep f1 hR)) hx (by omega) b1 b2 g2 fun M3 f3 g3 => ?_
  refine st801 (d := 3) hg (keep f3 (keep f2 (keep f1 hR))) hx (by omega) c1 c2 g3 fun M4 f4 g4 => ?_
  exact s_801_71 ⟨fun _ => ⟨by omega, hQ M4 (((f1.tr f2).tr f3).tr f4) g4⟩, fun h => by omega⟩
/-- the search from q -/
def sq0 (q : Nat) : SQ := (fun v => if v = q then 0 else -1, fun _ => (q : Int), 1)
def pthV (P : Int → Int → Bool) (q r : Nat) : Int := if P ((q % 48 : Nat) : Int) ((q / 48 : Nat) : Int) = true then (srch P 2304 0 (sq0 q)).1 r else -1
theorem SI.z {q : Nat} (hq : q < 2304) : SI (sq0 q) := by
  refine ⟨?_, fun i hi => ⟨q, hq, rfl, ?_⟩, fun y hy => ?_⟩
  · have hc : cl (sq0 q).1 2304 = cl (fun _ => (-1 : Int)) 2304 + 1 := cl_up (k := q) hq (by decide) (by show (0 : Int) ≤ if q = q then 0 else -1; rw [if_pos rfl]; decide) fun y _ hy => if_neg hy
    have h0 : cl (fun _ => (-1 : Int)) 2304 = 0 := by
      rcases Nat.eq_zero_or_pos (cl (fun _ => (-1 : Int)) 2304) with g | g
      · exact g
      · obtain ⟨x, -, hx⟩ := cntB_pos g
        exact absurd (show (0 : Int) ≤ -1 from of_decide_eq_true hx) (by decide)
    rw [hc, h0]; rfl
  · show (0 : Int) ≤ if q = q then 0 else -1
    rw [if_pos rfl]; decide
  · show (if y = q then (0 : Int) else -1) < ((1 : Nat) : Int)
    split <;> omega
theorem c531 {f : Nat → Int} {N k q r : Nat} {M : Mm} {Q : Int → Mm → Prop} (hF : FrC M f N) (hk : k < N) (hq : q < 2304) (hr : r < 2304) (hQ : ∀ M', Fx T801 M M' → Q (pthV (PL f k) q r) M') : E_531 (k : Int) (q : Int) (r : Int) M Q := by
  have h12 := hF.1.le
  have h11 := hF.2.1.1.1
  have hph := (hF.2.2.1 k hk).1
  have hg := lay_g f (2 * k + 1)
  refine s_531_0 ?_
  rw [h11, phV_in (by omega) (by omega)]
  refine s_801_0 fun M1 e1 => ?_
  have f1 : Fx T801 M M1 := by rw [e1]; exact Fx.setA ⟨by omega, rfl⟩
  have keep : ∀ {M' : Mm}, Fx T801 M M' → PhC M' f k := fun f => hph.keep ⟨⟨by rw [(f 3 k (by unfold T801; omega)).1], (f 402 k (by unfold T801; omega)).1, (f 404 k (by unfold T801; omega)).1, (f 405 k (by unfold T801; omega)).1⟩, (f 401 k (by unfold T801; omega)).2, (f 403 k (by unfold T801; omega)).2⟩
  refine c311 (keep f1) hq ⟨fun h0 M2 e2 M3 e3 => ?_, fun hneg => ?_⟩
  · have hp : PK f k q := Classical.byContradiction fun hn => by
      rw [lb_n hn] at h0
      omega
    have hp' : PL f k ((q % 48 : Nat) : Int) ((q / 48 : Nat) : Int) = true := hp
    unfold pthV at hQ
    rw [if_pos hp'] at hQ
    have f3 : Fx T801 M M3 := by
      rw [e3, e2]
      exact (f1.tr (Fx.setA ⟨by omega, rfl⟩)).tr (Fx.setA ⟨by omega, rfl⟩)
    have q1 : M3.1 901 0 = putN 2304 (upTo (fun _ => (-1)) (M.1 901 0) 2304) (q : Int) 0 := by rw [e3, setA_ne (by omega), e2, setA_at, e1, setA_at]
    have q2 : M3.1 900 0 = putN 2304 (M.1 900 0) 0 (q : Int) := by rw [e3, setA_at, e2, setA_ne (by omega), e1, setA_ne (by omega)]
    have ha : Ag M3 901 900 (sq0 q) := by
      refine ⟨fun v hv => ?_, fun j hj => ?_⟩
      · rw [q1]
        show _ = if v = q then (0 : Int) else -1
        by_cases e : v = q
        · rw [if_pos e, putN_at (by omega) (by omega)]
        · rw [if_neg e, putN_ne (by omega)]
          exact if_pos hv
      · have hj' : j < 1 := hj
        have e : j = 0 := by omega
        rw [q2, e]; exact putN_at (L := 2304) (j := 0) (q := 0) (by omega) rfl
    have key : ∀ (F h : Nat) (s : SQ) (M' : Mm), 2304 ≤ F + h → SI s → Fx T801 M M' → Ag M' 901 900 s → (∀ M', Fx T801 M M' → Q ((srch (PL f k) F h s).1 r) M') → L_801_42 k (q : Int) (r : Int) (s.2.2 : Int) (h : Int) M' Q := by
      intro F
      induction F with
      | zero =>
        intro h s M' hF' hs hf ha hQ'
        have hle := hs.le
        have fin : Q (atN 2304 (M'.1 901 0) (r : Int)) M' := by
          rw [atN_i (by omega) (by omega), Int.toNat_natCast, ha.1 r hr]; exact hQ' M' hf
        exact s_801_42 ⟨fun _ => fin, fun h => by omega⟩
      | succ F ih =>
        intro h s M' hF' hs hf ha hQ'
        have hle := hs.le
        by_cases c : h < s.2.2
        · have esr : srch (PL f k) (F + 1) h s = srch (PL f k) F (h + 1) (rnd (PL f k) (s.2.1 h).toNat s) := if_pos c
          rw [esr] at hQ'
          obtain ⟨v, v1, v2, v3⟩ := hs.2.1 h c
          refine s_801_42 ⟨fun h => by omega, fun _ => ⟨fun h => by omega, fun _ => ⟨by omega, fun x6 e6 => ?_⟩⟩⟩
          rw [Int.toNat_natCast, ha.2 h c, v2] at e6
          rw [e6]
          rw [v2, Int.toNat_natCast] at hQ'
          refine rn801 hg (keep hf).1 v1 ⟨by omega, by omega⟩ hs v3 ha fun M4 f4 g4 => ?_
          have := ih (h + 1) (rnd (PL f k) v s) M4 (by omega) (hs.rn hg v1 v3) (hf.tr f4) g4 hQ'
          rwa [show ((h + 1 : Nat) : Int) = (h : Int) + 1 by omega] at this
        · have esr : srch (PL f k) (F + 1) h s = s := if_neg c
          rw [esr] at hQ'
          have fin : Q (atN 2304 (M'.1 901 0) (r : Int)) M' := by
            rw [atN_i (by omega) (by omega), Int.toNat_natCast, ha.1 r hr]; exact hQ' M' hf
          exact s_801_42 ⟨fun _ => fin, fun h => by omega⟩
    exact key 2304 0 (sq0 q) M3 (by omega) (SI.z hq) f3 ha hQ
  · have hp : ¬ PK f k q := fun hp => by
      have := lb_0 hp
      omega
    have hp' : ¬ PL f k ((q % 48 : Nat) : Int) ((q / 48 : Nat) : Int) = true := hp
    unfold pthV at hQ
    rw [if_neg hp'] at hQ
    exact hQ M1 f1
/-! the reference's search -/
def T1085 (t j : Nat) : Prop := (t = 1123 ∨ t = 1153) ∧ j = 0
theorem st1085 {p x d : Nat} {x2 x3 x4 x5 x6 : Int} {s : SQ} {P : Int → Int → Bool} {M : Mm} {Q : Int → Mm → Prop} (hp : p < 12) (hg : InG P) (hR : ∀ y, y < 48 → ∀ x : Nat, bJ (M.2 1116 0 (48 * p + y)) x = (decide (x < 48) && P x y)) (hx : x < 2304) (hd : d < 4) (hs : SI s) (h0 : 0 ≤ s.1 x) (ha : Ag M 1153 1123 s) (hQ : ∀ M', Fx T1085 M M' → Ag M' 1153 1123 (dstep P x d s) → L_1085_149 (p : Int) x2 x3 x4 x5 x6 ((dstep P x d s).2.2 : Int) (x : Int) ((d : Int) + 1) M' Q) : L_1085_149 (p : Int) x2 x3 x4 x5 x6 (s.2.2 : Int) (x : Int) (d : Int) M Q := by
  have hle := hs.le
  have hdd := dXY d hd
  have hs3 := hs.2.2 x hx
  refine s_1085_149 ⟨fun h => by omega, fun _ => ⟨by omega, fun a ea b eb => ?_⟩⟩
  rw [tmod_p (by omega)] at ea
  have eb' : b = dX d := eb
  refine ⟨by omega, fun x8 e8 => ⟨by omega, fun a2 ea2 b2 eb2 => ?_⟩⟩
  rw [tdiv_p (by omega)] at ea2
  have eb2' : b2 = dY d := eb2
  refine ⟨by omega, fun x9 e9 => ⟨by omega, ?_⟩⟩
  have e8' : x8 = dnx x d := by unfold dnx; omega
  have e9' : x9 = dny x d := by unfold dny; omega
  clear e8 e9 ea eb ea2 eb2 eb' eb2' hdd
  subst e8'
  subst e9'
  rw [isV_P hg hR]
  refine ⟨fun hz => ⟨by omega, ?_⟩, fun hz => ?_⟩
  · have hp := b2i_0.mp hz
    have en : dstep P x d s = s := dstep_n fun g => by rw [hp] at g; exact absurd g.1 (by decide)
    rw [en] at hQ
    exact hQ M Fx.rf ha
  · have hp := b2i_n.mp hz
    have hl := dn_lt hg hp
    have hin := hg _ _ hp
    obtain ⟨v, hv⟩ : ∃ v : Nat, 48 * dny x d + dnx x d = v := ⟨(48 * dny x d + dnx x d).toNat, by omega⟩
    rw [hv, Int.toNat_natCast, Int.toNat_natCast, ha.1 v (by omega), ha.1 x hx]
    have ht : s.1 v < 0 → s.2.2 < 2304 := fun hz2 => by
      have hc : cl (ups s.1 v (s.1 x + 1)) 2304 = cl s.1 2304 + 1 := cl_up (k := v) (by omega) hz2 (by rw [ups_at]; omega) fun y _ hy => ups_ne hy
      have := cl_le (ups s.1 v (s.1 x + 1)) 2304
      have := hs.1
      omega
    refine ⟨⟨by omega, by omega, by omega⟩, fun hz2 => ?_, fun hz2 => ⟨by omega, ?_⟩⟩
    · have ht := ht hz2
      refine ⟨⟨by omega, by omega, by omega, by omega, by omega⟩, fun M1 e1 => ⟨⟨by omega, by omega, by omega⟩, fun M2 e2 => ⟨⟨by omega, by omega⟩, ?_⟩⟩⟩
      have en := dstep_y (P := P) (x := x) (d := d) (s := s) ⟨hp, by rw [hv, Int.toNat_natCast]; exact hz2⟩
      rw [hv, Int.toNat_natCast] at en
      rw [en] at hQ
      rw [Int.toNat_natCast] at e2
      have q1 : M2.1 1153 0 = ups (M.1 1153 0) v (s.1 x + 1) := by rw [e2, setI_ne (by omega), e1, setI_at]
      have q2 : M2.1 1123 0 = ups (M.1 1123 0) s.2.2 (v : Int) := by rw [e2, setI_at, e1, setI_ne (by omega)]
      have := hQ M2 (by rw [e2, e1]; exact (Fx.setI ⟨by omega, rfl⟩).tr (Fx.setI ⟨by omega, rfl⟩)) ⟨fun y hy => ?_, fun j hj => ?_⟩
      · exact this
      · rw [q1]
        show _ = ups s.1 v (s.1 x + 1) y
        by_cases e : y = v
        · rw [e, ups_at, ups_at]
        · rw [ups_ne e, ups_ne e]; exact ha.1 y hy
      · have hj' : j < s.2.2 + 1 := hj
        rw [q2]
        show _ = ups s.2.1 s.2.2 (v : Int) j
        by_cases e : j = s.2.2
        · rw [e, ups_at, ups_at]
        · rw [ups_ne e, ups_ne e]; exact ha.2 j (by omega)
    · have en : dstep P x d s = s := dstep_n fun g => by
        have := g.2
        rw [hv, Int.toNat_natCast] at this
        omega
      rw [en] at hQ
      exact hQ M Fx.rf ha
theorem c1085_69 {f : Nat → Int} {N k x y u v : Nat} {M : Mm} {Q : Int → Mm → Prop} (hF : FrM M f N) (hk : k < N) (hx : x < 12) (hy : y < 12) (hu : u < 12) (hv : v < 12) (hp : PL f k ((smp x y % 48 : Nat) : Int) ((smp x y / 48 : Nat) : Int) = true) (hQ : ∀ M', Fx T1085 M M' → Q (pthV (PL f k) (smp x y) (smp u v)) M') : L_1085_69 (k : Int) (x : Int) (y : Int) (u : Int) (v : Int) 0 M Q := by
  have h12 := hF.1.le
  have hph := (hF.2.2.2.1 k hk).1
  have hg := lay_g f (2 * k + 1)
  have hq := smp_lt hx hy
  have hr := smp_lt hu hv
  have eq1 : 48 * (4 * (y : Int) + 1) + 4 * (x : Int) = (smp x y : Nat) := by unfold smp; omega
  have eq2 : 48 * (4 * (v : Int) + 1) + 4 * (u : Int) = (smp u v : Nat) := by unfold smp; omega
  unfold pthV at hQ
  rw [if_pos hp] at hQ
  have keep : ∀ {M' : Mm}, Fx T1085 M M' → PhR M' f k := fun g => by
    unfold PhR
    rw [(g 1116 0 (by unfold T1085; omega)).2]; exact hph
  generalize smp x y = q at *
  generalize smp u v = r at *
  have main : ∀ M3 : Mm, Fx T1085 M M3 → Ag M3 1153 1123 (sq0 q) → L_1085_127 (k : Int) (x : Int) (y : Int) (u : Int) (v : Int) 0 1 M3 Q := by
    intro M3 f3 ha
    have key : ∀ (F h : Nat) (s : SQ) (M' : Mm), 2304 ≤ F + h → SI s → Fx T1085 M M' → Ag M' 1153 1123 s → (∀ M', Fx T1085 M M' → Q ((srch (PL f k) F h s).1 r) M') → L_1085_127 (k : Int) (x : Int) (y : Int) (u : Int) (v : Int) (h : Int) (s.2.2 : Int) M' Q := by
      intro F
      induction F with
      | zero =>
        intro h s M' hF' hs hf ha hQ'
        have hle := hs.le
        refine s_1085_127 ⟨fun _ => ?_, fun h => by omega⟩
        rw [eq2, Int.toNat_natCast, ha.1 r hr]
        exact ⟨⟨by omega, by omega, by omega, by omega, by omega, by omega⟩, hQ' M' hf⟩
      | succ F ih =>
        intro h s M' hF' hs hf ha hQ'
        have hle := hs.le
        by_cases c : h < s.2.2
        · have esr : srch (PL f k) (F + 1) h s = srch (PL f k) F (h + 1) (rnd (PL f k) (s.2.1 h).toNat s) := if_pos c
          rw [esr] at hQ'
          obtain ⟨w, v1, v2, v3⟩ := hs.2.1 h c
          refine s_1085_127 ⟨fun h => by omega, fun _ => ⟨by omega, fun x8 e8 => ⟨by omega, ?_⟩⟩⟩
          rw [Int.toNat_natCast, ha.2 h c, v2] at e8
          rw [e8]
          rw [v2, Int.toNat_natCast] at hQ'
          obtain ⟨a1, a2⟩ := hs.st hg (d := 0) v1 v3
          obtain ⟨b1, b2⟩ := a1.st hg (d := 1) v1 a2
          obtain ⟨c1, c2⟩ := b1.st hg (d := 2) v1 b2
          refine st1085 (d := 0) (by omega) hg (keep hf) v1 (by omega) hs v3 ha fun M4 f4 g4 => ?_
          refine st1085 (d := 1) (by omega) hg (keep (hf.tr f4)) v1 (by omega) a1 a2 g4 fun M5 f5 g5 => ?_
          refine st1085 (d := 2) (by omega) hg (keep ((hf.tr f4).tr f5)) v1 (by omega) b1 b2 g5 fun M6 f6 g6 => ?_
          refine st1085 (d := 3) (by omega) hg (keep (((hf.tr f4).tr f5).tr f6)) v1 (by omega) c1 c2 g6 fun M7 f7 g7 => ?_
          refine s_1085_149 ⟨fun _ => ?_, fun h => by omega⟩
          have := ih (h + 1) (rnd (PL f k) w s) M7 (by omega) (hs.rn hg v1 v3) ((((hf.tr f4).tr f5).tr f6).tr f7) g7 hQ'
          rwa [show ((h + 1 : Nat) : Int) = (h : Int) + 1 by omega] at this
        · have esr : srch (PL f k) (F + 1) h s = s := if_neg c
          rw [esr] at hQ'
          refine s_1085_127 ⟨fun _ => ?_, fun h => by omega⟩
          rw [eq2, Int.toNat_natCast, ha.1 r hr]
          exact ⟨⟨by omega, by omega, by omega, by omega, by omega, by omega⟩, hQ' M' hf⟩
    exact key 2304 0 (sq0 q) M3 (by omega) (SI.z hq) f3 ha hQ
  have fill : ∀ (s n : Nat) (M' : Mm), n + s = 2304 → Fx T1085 M M' → (∀ j, j < n → M'.1 1153 0 j = -1) → L_1085_69 (k : Int) (x : Int) (y : Int) (u : Int) (v : Int) (n : Int) M' Q := by
    intro s
    induction s with
    | zero =>
      intro n M' hn hf g
      refine s_1085_69 ⟨fun _ => ?_, fun h => by omega⟩
      rw [eq1]
      refine ⟨⟨by omega, by omega, by omega, by omega, by omega⟩, fun M1 e1 => ?_⟩
      have e0 : M1.1 1123 0 0 = q := by rw [e1, setI_at, ups_at]
      rw [e0]
      refine ⟨by omega, fun M2 e2 => ?_⟩
      rw [Int.toNat_natCast] at e2
      refine main M2 ?_ ⟨fun w hw => ?_, fun j hj => ?_⟩
      · rw [e2, e1]
        exact (hf.tr (Fx.setI ⟨by omega, rfl⟩)).tr (Fx.setI ⟨by omega, rfl⟩)
      · rw [e2, setI_at, e1, setI_ne (by omega)]
        show _ = if w = q then (0 : Int) else -1
        by_cases e : w = q
        · rw [e, ups_at, if_pos rfl]
        · rw [ups_ne e, if_neg e]; exact g w (by omega)
      · have hj' : j < 1 := hj
        have e : j = 0 := by omega
        rw [e2, setI_ne (by omega), e, e0]; rfl
    | succ s ih =>
      intro n M' hn hf g
      refine s_1085_69 ⟨fun h => by omega, fun _ => ⟨by omega, fun M1 e1 => ⟨by omega, ?_⟩⟩⟩
      rw [Int.toNat_natCast] at e1
      have := ih (n + 1) M1 (by omega) (hf.tr (by rw [e1]; exact Fx.setI ⟨by omega, rfl⟩)) fun j hj => by
        rw [e1, setI_at]
        by_cases e : j = n
        · rw [e, ups_at]
        · rw [ups_ne e]; exact g j (by omega)
      rwa [show ((n + 1 : Nat) : Int) = (n : Int) + 1 by omega] at this
  exact fill 2304 0 M (by omega) Fx.rf fun j h => absurd h (Nat.not_lt_zero j)

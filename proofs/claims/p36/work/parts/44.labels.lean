/-! components of a graph on numbers, numbered in the order of their first nodes -/
section LB
variable {N : Nat} {P : Nat → Prop} {A : Nat → Nat → Prop}
def Cn (P : Nat → Prop) (A : Nat → Nat → Prop) (a b : Nat) : Prop := ∀ S : Nat → Prop, S a → (∀ c d, S c → A c d → P d → S d) → S b
theorem Cn.rf (a : Nat) : Cn P A a a := fun _ h _ => h
theorem Cn.st {a b c : Nat} (h : Cn P A a b) (g : A b c) (k : P c) : Cn P A a c := fun S h1 h2 => h2 b c (h S h1 h2) g k
theorem Cn.tr {a b c : Nat} (h : Cn P A a b) (g : Cn P A b c) : Cn P A a c := fun S h1 h2 => g S (h S h1 h2) h2
theorem Cn.sy (sA : ∀ a b, A a b → A b a) {a b : Nat} (h : Cn P A a b) (ha : P a) : Cn P A b a := (h (fun x => P x ∧ Cn P A x a) ⟨ha, Cn.rf a⟩ (fun c d h1 h2 h3 => ⟨h3, Cn.tr (Cn.st (Cn.rf d) (sA _ _ h2) h1.1) h1.2⟩)).2
theorem Cn.pp {a b : Nat} (h : Cn P A a b) (ha : P a) : P b := h P ha (fun _ _ _ _ h => h)
def Fi (P : Nat → Prop) (A : Nat → Nat → Prop) (q : Nat) : Prop := P q ∧ ∀ x, x < q → P x → ¬ Cn P A x q
/-- how many of the numbers below n -/
noncomputable def cP (p : Nat → Prop) : Nat → Nat
  | 0 => 0
  | n + 1 => cP p n + @ite Nat (p n) (Classical.propDecidable _) 1 0
theorem cP_y {p : Nat → Prop} {n : Nat} (h : p n) : cP p (n + 1) = cP p n + 1 := by
  show cP p n + _ = _
  rw [if_pos h]
theorem cP_n {p : Nat → Prop} {n : Nat} (h : ¬ p n) : cP p (n + 1) = cP p n := by
  show cP p n + _ = _
  rw [if_neg h, Nat.add_zero]
theorem cP_s (p : Nat → Prop) (n : Nat) : cP p n ≤ cP p (n + 1) := Nat.le_add_right _ _
theorem cP_mono {p : Nat → Prop} {n m : Nat} (h : n ≤ m) : cP p n ≤ cP p m := by
  induction m with
  | zero => rw [show n = 0 by omega]; exact Nat.le_refl _
  | succ m ih =>
    by_cases e : n = m + 1
    · rw [e]; exact Nat.le_refl _
    · exact Nat.le_trans (ih (by omega)) (cP_s p m)
theorem cP_lt {p : Nat → Prop} {n m : Nat} (h : n < m) (hp : p n) : cP p n < cP p m := Nat.lt_of_lt_of_le (by rw [cP_y hp]; omega) (cP_mono (p := p) h)
theorem cP_inj {p : Nat → Prop} {n m : Nat} (hn : p n) (hm : p m) (h : cP p n = cP p m) : n = m := by
  rcases Nat.lt_trichotomy n m with g | g | g
  · have := cP_lt g hn; omega
  · exact g
  · have := cP_lt g hm; omega
theorem cP_ex {p : Nat → Prop} : ∀ {n c : Nat}, c < cP p n → ∃ q, q < n ∧ p q ∧ cP p q = c
  | 0, c, h => absurd h (Nat.not_lt_zero c)
  | n + 1, c, h => by
    by_cases g : c < cP p n
    · obtain ⟨q, h1, h2, h3⟩ := cP_ex g
      exact ⟨q, Nat.lt_succ_of_lt h1, h2, h3⟩
    · by_cases hp : p n
      · rw [cP_y hp] at h
        exact ⟨n, Nat.lt_succ_self n, hp, by omega⟩
      · rw [cP_n hp] at h
        exact absurd h g
theorem cP_le (p : Nat → Prop) : ∀ n, cP p n ≤ n
  | 0 => Nat.le_refl 0
  | n + 1 => by
    have := cP_le p n
    by_cases g : p n
    · rw [cP_y g]; omega
    · rw [cP_n g]; omega
/-- each node's component has a first node -/
theorem fi_ex : ∀ {q : Nat}, P q → ∃ q0, q0 ≤ q ∧ Fi P A q0 ∧ Cn P A q0 q := by
  intro q
  induction q using Nat.strongRecOn with
  | ind q ih =>
    intro hq
    by_cases h : ∃ x, x < q ∧ P x ∧ Cn P A x q
    · obtain ⟨x, h1, h2, h3⟩ := h
      obtain ⟨q0, g1, g2, g3⟩ := ih x h1 h2
      exact ⟨q0, by omega, g2, g3.tr h3⟩
    · exact ⟨q, Nat.le_refl q, ⟨hq, fun x h1 h2 h3 => h ⟨x, h1, h2, h3⟩⟩, Cn.rf q⟩
theorem fi_un (sA : ∀ a b, A a b → A b a) {a b q : Nat} (ha : Fi P A a) (hb : Fi P A b) (h : Cn P A a q) (g : Cn P A b q) : a = b := by
  have hab : Cn P A a b := h.tr (g.sy sA hb.1)
  rcases Nat.lt_trichotomy a b with k | k | k
  · exact absurd hab (hb.2 a k ha.1)
  · exact k
  · exact absurd (hab.sy sA ha.1) (ha.2 b k hb.1)
/-- l numbers the components, n of them -/
def IsL (N : Nat) (P : Nat → Prop) (A : Nat → Nat → Prop) (l : Nat → Int) (n : Nat) : Prop := (∀ q, q < N → ¬ P q → l q < 0) ∧ (∀ q, q < N → P q → ∃ q0, q0 ≤ q ∧ Fi P A q0 ∧ Cn P A q0 q ∧ l q = (cP (Fi P A) q0 : Int)) ∧ n = cP (Fi P A) N
theorem IsL.un (sA : ∀ a b, A a b → A b a) {l l' : Nat → Int} {n n' : Nat} (h : IsL N P A l n) (g : IsL N P A l' n') : n = n' ∧ ∀ q, q < N → P q → l q = l' q := by
  refine ⟨h.2.2.trans g.2.2.symm, fun q hq hp => ?_⟩
  obtain ⟨a, -, a2, a3, a4⟩ := h.2.1 q hq hp
  obtain ⟨b, -, b2, b3, b4⟩ := g.2.1 q hq hp
  rw [a4, b4, fi_un sA a2 b2 a3 b3]
theorem IsL.bd {l : Nat → Int} {n : Nat} (h : IsL N P A l n) {q : Nat} (hq : q < N) (hp : P q) : 0 ≤ l q ∧ l q < n := by
  obtain ⟨a, a1, a2, a3, a4⟩ := h.2.1 q hq hp
  have := cP_lt (p := Fi P A) (show a < N by omega) a2
  rw [a4, h.2.2]
  omega
/-- label c's first node -/
theorem IsL.fst {l : Nat → Int} {n : Nat} (h : IsL N P A l n) {c : Nat} (hc : c < n) : ∃ q, q < N ∧ Fi P A q ∧ cP (Fi P A) q = c := by
  rw [h.2.2] at hc
  exact cP_ex hc
/-! the numbering in progress: all components with a first node below q are numbered -/
def Otr (N : Nat) (P : Nat → Prop) (A : Nat → Nat → Prop) (q : Nat) (l : Nat → Int) : Prop := (∀ x, x < N → 0 ≤ l x → P x ∧ ∃ q0, q0 < q ∧ Fi P A q0 ∧ Cn P A q0 x ∧ l x = (cP (Fi P A) q0 : Int)) ∧ (∀ x, x < N → ∀ q0, q0 < q → Fi P A q0 → Cn P A q0 x → 0 ≤ l x)
theorem Otr.z {l : Nat → Int} (h : ∀ x, x < N → l x < 0) : Otr N P A 0 l := ⟨fun x hx h1 => absurd (h x hx) (by omega), fun _ _ q0 h => absurd h (Nat.not_lt_zero q0)⟩
theorem Otr.nx {q : Nat} {l : Nat → Int} (hq : q < N) (h : Otr N P A q l) (g : ¬ P q ∨ 0 ≤ l q) : Otr N P A (q + 1) l ∧ ¬ Fi P A q := by
  have hn : ¬ Fi P A q := by
    rintro ⟨f1, f2⟩
    rcases g with g | g
    · exact g f1
    · obtain ⟨-, q0, h1, h2, h3, -⟩ := h.1 q hq g
      exact f2 q0 h1 h2.1 h3
  refine ⟨⟨fun x hx hl => ?_, fun x hx q0 h1 h2 h3 => ?_⟩, hn⟩
  · obtain ⟨p, q0, h1, h2⟩ := h.1 x hx hl
    exact ⟨p, q0, by omega, h2⟩
  · by_cases e : q0 = q
    · subst e; exact absurd h2 hn
    · exact h.2 x hx q0 (by omega) h2 h3
theorem Otr.fi (sA : ∀ a b, A a b → A b a) {q : Nat} {l : Nat → Int} (hq : q < N) (h : Otr N P A q l) (hp : P q) (g : l q < 0) : Fi P A q ∧ ∀ x, x < N → Cn P A q x → l x < 0 := by
  have hf : Fi P A q := by
    refine ⟨hp, fun x hx hpx hc => ?_⟩
    obtain ⟨q0, h1, h2, h3⟩ := fi_ex (A := A) hpx
    have := h.2 q hq q0 (by omega) h2 (h3.tr hc)
    omega
  refine ⟨hf, fun x hx hc => ?_⟩
  rcases Int.lt_or_le (l x) 0 with k | k
  · exact k
  · obtain ⟨-, q0, h1, h2, h3, -⟩ := h.1 x hx k
    have : q0 = q := fi_un sA h2 hf h3 hc
    omega
theorem Otr.up (sA : ∀ a b, A a b → A b a) {q : Nat} {l l' : Nat → Int} (h : Otr N P A q l) (hf : Fi P A q) (h1 : ∀ x, x < N → Cn P A q x → l' x = (cP (Fi P A) q : Int)) (h2 : ∀ x, x < N → ¬ Cn P A q x → l' x = l x) : Otr N P A (q + 1) l' := by
  refine ⟨fun x hx hl => ?_, fun x hx q0 k1 k2 k3 => ?_⟩
  · by_cases hc : Cn P A q x
    · exact ⟨hc.pp hf.1, q, by omega, hf, hc, h1 x hx hc⟩
    · rw [h2 x hx hc] at hl
      obtain ⟨p, q0, g1, g2, g3, g4⟩ := h.1 x hx hl
      exact ⟨p, q0, by omega, g2, g3, by rw [h2 x hx hc, g4]⟩
  · by_cases hc : Cn P A q x
    · rw [h1 x hx hc]; omega
    · rw [h2 x hx hc]
      have : q0 ≠ q := fun e => hc (e ▸ k3)
      exact h.2 x hx q0 (by omega) k2 k3
theorem Otr.fin (sA : ∀ a b, A a b → A b a) {l : Nat → Int} (h : Otr N P A N l) : IsL N P A l (cP (Fi P A) N) := by
  refine ⟨fun q hq hp => ?_, fun q hq hp => ?_, rfl⟩
  · rcases Int.lt_or_le (l q) 0 with k | k
    · exact k
    · exact absurd (h.1 q hq k).1 hp
  · obtain ⟨q0, h1, h2, h3⟩ := fi_ex (A := A) hp
    have := h.2 q hq q0 (by omega) h2 h3
    obtain ⟨-, a, a1, a2, a3, a4⟩ := h.1 q hq this
    refine ⟨a, ?_, a2, a3, a4⟩
    rcases Nat.lt_or_ge q a with e | e
    · exact absurd (a3.sy sA a2.1) (a2.2 q e hp)
    · exact e
/-! a search that numbers a component -/
/-- how many are numbered -/
def cl (l : Nat → Int) (n : Nat) : Nat := cntB (fun x => decide (0 ≤ l x)) n
theorem cl_le (l : Nat → Int) (n : Nat) : cl l n ≤ n := cntB_le _ n
theorem cl_up {l l' : Nat → Int} {k : Nat} : ∀ {n : Nat}, k < n → l k < 0 → 0 ≤ l' k → (∀ x, x < n → x ≠ k → l' x = l x) → cl l' n = cl l n + 1
  | 0, h, _, _, _ => absurd h (Nat.not_lt_zero k)
  | n + 1, h, h1, h2, h3 => by
    show cl l' n + (bif decide (0 ≤ l' n) then 1 else 0) = cl l n + (bif decide (0 ≤ l n) then 1 else 0) + 1
    by_cases e : k = n
    · subst e
      have h4 : cl l' k = cl l k := cntB_congr fun x hx => by rw [h3 x (by omega) (by omega)]
      rw [h4, decide_eq_true h2, decide_eq_false (show ¬ 0 ≤ l k by omega)]
      rfl
    · rw [cl_up (k := k) (n := n) (by omega) h1 h2 (fun x hx => h3 x (by omega)), h3 n (by omega) (fun g => e g.symm)]
      omega
/-- a search from q: the nodes in the queue w up to tail have the number n, those before head have all neighbours numbered -/
def Bf (N : Nat) (P : Nat → Prop) (A : Nat → Nat → Prop) (l0 : Nat → Int) (q n : Nat) (l w : Nat → Int) (head tail : Nat) : Prop :=
  (∀ x, x < N → l x = l0 x ∨ (l x = n ∧ ∃ i, i < tail ∧ w i = x)) ∧ (∀ i, i < tail → ∃ x : Nat, w i = x ∧ x < N ∧ P x ∧ Cn P A q x ∧ l x = n) ∧ (∀ i, i < head → ∀ x y : Nat, w i = x → A x y → P y → y < N → 0 ≤ l y) ∧ (∃ i, i < tail ∧ w i = q) ∧ cl l N = cl l0 N + tail ∧ head ≤ tail
theorem Bf.z {l0 l w : Nat → Int} {q n : Nat} (hq : q < N) (hp : P q) (h0 : l0 q < 0) (h1 : l q = n) (h2 : ∀ x, x < N → x ≠ q → l x = l0 x) (h3 : w 0 = q) : Bf N P A l0 q n l w 0 1 := by
  refine ⟨fun x hx => ?_, fun i hi => ?_, fun i hi => absurd hi (Nat.not_lt_zero i), ⟨0, by omega, h3⟩, cl_up hq h0 (by omega) h2, by omega⟩
  · by_cases e : x = q
    · subst e; exact Or.inr ⟨h1, 0, by omega, h3⟩
    · exact Or.inl (h2 x hx e)
  · have : i = 0 := by omega
    subst this
    exact ⟨q, h3, hq, hp, Cn.rf q, h1⟩
theorem Bf.tl {l0 l w : Nat → Int} {q n head tail : Nat} (h : Bf N P A l0 q n l w head tail) : tail ≤ N := by
  have := h.2.2.2.2.1
  have := cl_le l N
  omega
theorem Bf.push {l0 l l' w w' : Nat → Int} {q n head tail : Nat} (h : Bf N P A l0 q n l w head tail) {i x y : Nat} (hi : i < tail) (hx : w i = x) (ha : A x y) (hp : P y) (hy : y < N) (hl : l y < 0) (h1 : l' y = n) (h2 : ∀ z, z < N → z ≠ y → l' z = l z) (h3 : w' tail = y) (h4 : ∀ i, i < tail → w' i = w i) : Bf N P A l0 q n l' w' head (tail + 1) ∧ tail < N := by
  obtain ⟨a1, a2, a3, a4, a5, a6⟩ := h
  have hc := cl_up (l' := l') hy hl (by omega) h2
  have hb := cl_le l' N
  refine ⟨⟨fun z hz => ?_, fun j hj => ?_, fun j hj u v hu hv hpv hvN => ?_, ?_, by omega, by omega⟩, by omega⟩
  · by_cases e : z = y
    · subst e; exact Or.inr ⟨h1, tail, by omega, h3⟩
    · rw [h2 z hz e]
      rcases a1 z hz with k | ⟨k, j, j1, j2⟩
      · exact Or.inl k
      · exact Or.inr ⟨k, j, by omega, by rw [h4 j j1, j2]⟩
  · by_cases e : j = tail
    · subst e
      obtain ⟨x', b1, b2, b3, b4, b5⟩ := a2 i hi
      have : x' = x := by omega
      subst this
      exact ⟨y, h3, hy, hp, b4.st ha hp, h1⟩
    · obtain ⟨x', b1, b2, b3, b4, b5⟩ := a2 j (by omega)
      refine ⟨x', by rw [h4 j (by omega), b1], b2, b3, b4, ?_⟩
      by_cases g : x' = y
      · rw [g, h1]
      · rw [h2 x' b2 g, b5]
  · rw [h4 j (by omega)] at hu
    have := a3 j hj u v hu hv hpv hvN
    by_cases g : v = y
    · rw [g, h1]; omega
    · rw [h2 v hvN g]; exact this
  · obtain ⟨j, j1, j2⟩ := a4
    exact ⟨j, by omega, by rw [h4 j j1, j2]⟩
theorem Bf.next {l0 l w : Nat → Int} {q n head tail : Nat} (h : Bf N P A l0 q n l w head tail) (hh : head < tail) {x : Nat} (hx : w head = x) (g : ∀ y, A x y → P y → y < N → 0 ≤ l y) : Bf N P A l0 q n l w (head + 1) tail := by
  obtain ⟨a1, a2, a3, a4, a5, a6⟩ := h
  refine ⟨a1, a2, fun i hi u v hu hv hpv hvN => ?_, a4, a5, by omega⟩
  by_cases e : i = head
  · subst e
    have : u = x := by omega
    subst this
    exact g v hv hpv hvN
  · exact a3 i (by omega) u v hu hv hpv hvN
theorem Bf.fin (bA : ∀ a b, A a b → b < N) {l0 l w : Nat → Int} {q n tail : Nat} (hN : ∀ x, x < N → Cn P A q x → l0 x < 0) (h : Bf N P A l0 q n l w tail tail) : (∀ x, x < N → Cn P A q x → l x = n) ∧ ∀ x, x < N → ¬ Cn P A q x → l x = l0 x := by
  obtain ⟨a1, a2, a3, ⟨i0, i1, i2⟩, a5, a6⟩ := h
  have key : ∀ x, Cn P A q x → ∃ i, i < tail ∧ w i = x := by
    intro x hc
    refine hc (fun x => ∃ i, i < tail ∧ w i = x) ⟨i0, i1, i2⟩ ?_
    rintro c d ⟨i, h1, h2⟩ had hpd
    obtain ⟨c', b1, b2, b3, b4, b5⟩ := a2 i h1
    have e : c' = c := by omega
    subst e
    have hd := bA _ _ had
    have h3 := a3 i h1 c' d h2 had hpd hd
    rcases a1 d hd with k | ⟨-, k⟩
    · have := hN d hd (b4.st had hpd)
      omega
    · exact k
  refine ⟨fun x hx hc => ?_, fun x hx hc => ?_⟩
  · obtain ⟨i, h1, h2⟩ := key x hc
    obtain ⟨x', b1, b2, b3, b4, b5⟩ := a2 i h1
    have e : x' = x := by omega
    rw [← e]; exact b5
  · rcases a1 x hx with k | ⟨-, i, h1, h2⟩
    · exact k
    · obtain ⟨x', b1, b2, b3, b4, b5⟩ := a2 i h1
      have e : x' = x := by omega
      rw [e] at b4
      exact absurd b4 hc
end LB

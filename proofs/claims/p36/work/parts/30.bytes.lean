/-! the bits of a long, counted by its bytes -/
def vaB : List Nat → Nat
  | [] => 0
  | b :: bs => 256 * vaB bs + b
def byB : Nat → Nat → List Nat
  | 0, _ => []
  | n + 1, w => (w % 256) :: byB n (w / 256)
def mkB (m : Nat) : Nat → Nat
  | 0 => 0
  | n + 1 => 256 * mkB m n + m
theorem byB_va : ∀ (n w : Nat), w < 256 ^ n → vaB (byB n w) = w
  | 0, w, h => by
    have : w = 0 := by simpa using h
    subst this; rfl
  | n + 1, w, h => by
    show 256 * vaB (byB n (w / 256)) + w % 256 = w
    rw [byB_va n (w / 256) (by rw [Nat.pow_succ] at h; omega)]
    omega
theorem byB_lt : ∀ (n w : Nat), ∀ b ∈ byB n w, b < 256
  | 0, _, b, h => absurd h List.not_mem_nil
  | n + 1, w, b, h => by
    rcases List.mem_cons.mp h with e | h
    · omega
    · exact byB_lt n (w / 256) b h
theorem byB_len : ∀ (n w : Nat), (byB n w).length = n
  | 0, _ => rfl
  | n + 1, w => by
    show (byB n (w / 256)).length + 1 = n + 1
    rw [byB_len n]
theorem and_256 {a b c d : Nat} (hb : b < 256) (hd : d < 256) : (256 * a + b) &&& (256 * c + d) = 256 * (a &&& c) + (b &&& d) := by
  have h1 : ((256 * a + b) &&& (256 * c + d)) / 2 ^ 8 = (256 * a + b) / 2 ^ 8 &&& (256 * c + d) / 2 ^ 8 := Nat.and_div_two_pow
  have h2 : ((256 * a + b) &&& (256 * c + d)) % 2 ^ 8 = (256 * a + b) % 2 ^ 8 &&& (256 * c + d) % 2 ^ 8 := Nat.and_mod_two_pow
  have e1 : (256 * a + b) / 2 ^ 8 = a := by omega
  have e2 : (256 * c + d) / 2 ^ 8 = c := by omega
  have e3 : (256 * a + b) % 2 ^ 8 = b := by omega
  have e4 : (256 * c + d) % 2 ^ 8 = d := by omega
  rw [e1, e2] at h1
  rw [e3, e4] at h2
  omega
def n1b (b : Nat) : Nat := b - ((b / 2) &&& 85)
def n2b (b : Nat) : Nat := (b &&& 51) + ((b / 4) &&& 51)
def n3b (b : Nat) : Nat := (b + b / 16) &&& 15
theorem by_b : ((List.range 256).all fun b => (List.range 4).all fun r => Nat.beq ((128 * (r % 2) + b / 2) &&& 85) ((b / 2) &&& 85) && Nat.beq ((64 * r + b / 4) &&& 51) ((b / 4) &&& 51)) = true := by decide +kernel
theorem by_c : ((List.range 256).all fun b => Nat.ble (n1b b) 255 && (Nat.ble (n2b (n1b b) % 16) 4 && (Nat.ble (n2b (n1b b) / 16) 4 && Nat.beq (n3b (n2b (n1b b))) (cntB (fun x => b.testBit x) 8)))) = true := by decide +kernel
theorem by_1 {b r : Nat} (hb : b < 256) (hr : r < 4) : (128 * (r % 2) + b / 2) &&& 85 = (b / 2) &&& 85 ∧ (64 * r + b / 4) &&& 51 = (b / 4) &&& 51 := by
  have h := List.all_eq_true.mp (List.all_eq_true.mp by_b b (List.mem_range.mpr hb)) r (List.mem_range.mpr hr)
  obtain ⟨h1, h2⟩ := Bool.and_eq_true_iff.mp h
  exact ⟨Nat.eq_of_beq_eq_true h1, Nat.eq_of_beq_eq_true h2⟩
theorem by_2 {b : Nat} (hb : b < 256) : n1b b < 256 ∧ n2b (n1b b) % 16 ≤ 4 ∧ n2b (n1b b) / 16 ≤ 4 ∧ n3b (n2b (n1b b)) = cntB (fun x => b.testBit x) 8 := by
  have h := List.all_eq_true.mp by_c b (List.mem_range.mpr hb)
  obtain ⟨h1, h⟩ := Bool.and_eq_true_iff.mp h
  obtain ⟨h2, h⟩ := Bool.and_eq_true_iff.mp h
  obtain ⟨h3, h4⟩ := Bool.and_eq_true_iff.mp h
  exact ⟨by have := Nat.le_of_ble_eq_true h1; omega, Nat.le_of_ble_eq_true h2, Nat.le_of_ble_eq_true h3, Nat.eq_of_beq_eq_true h4⟩
theorem n1_va : ∀ (bs : List Nat), (∀ b ∈ bs, b < 256) → vaB bs - ((vaB bs / 2) &&& mkB 85 bs.length) = vaB (bs.map n1b)
  | [], _ => rfl
  | b :: bs, h => by
    have hb := h b List.mem_cons_self
    have ih := n1_va bs (fun c hc => h c (List.mem_cons_of_mem _ hc))
    show (256 * vaB bs + b) - (((256 * vaB bs + b) / 2) &&& (256 * mkB 85 bs.length + 85)) = 256 * vaB (bs.map n1b) + n1b b
    have e : (256 * vaB bs + b) / 2 = 256 * (vaB bs / 2) + (128 * (vaB bs % 2) + b / 2) := by omega
    have h2 := (by_1 (r := vaB bs % 2) hb (by omega)).1
    rw [Nat.mod_mod] at h2
    rw [e, and_256 (by omega) (by omega), h2, ← ih]
    unfold n1b
    have k1 : (vaB bs / 2 &&& mkB 85 bs.length) ≤ vaB bs / 2 := Nat.and_le_left
    have k2 : (b / 2 &&& 85) ≤ b / 2 := Nat.and_le_left
    omega
theorem n2_va : ∀ (bs : List Nat), (∀ b ∈ bs, b < 256) → (vaB bs &&& mkB 51 bs.length) + ((vaB bs / 4) &&& mkB 51 bs.length) = vaB (bs.map n2b)
  | [], _ => rfl
  | b :: bs, h => by
    have hb := h b List.mem_cons_self
    have ih := n2_va bs (fun c hc => h c (List.mem_cons_of_mem _ hc))
    show ((256 * vaB bs + b) &&& (256 * mkB 51 bs.length + 51)) + (((256 * vaB bs + b) / 4) &&& (256 * mkB 51 bs.length + 51)) = 256 * vaB (bs.map n2b) + n2b b
    have e : (256 * vaB bs + b) / 4 = 256 * (vaB bs / 4) + (64 * (vaB bs % 4) + b / 4) := by omega
    have h2 := (by_1 (r := vaB bs % 4) hb (by omega)).2
    rw [e, and_256 hb (by omega), and_256 (by omega) (by omega), h2, ← ih]
    unfold n2b
    omega
theorem n3_va : ∀ (bs : List Nat), (∀ b ∈ bs, b % 16 ≤ 4 ∧ b / 16 ≤ 4) → (vaB bs + vaB bs / 16) &&& mkB 15 bs.length = vaB (bs.map n3b) ∧ vaB bs % 16 ≤ 4
  | [], _ => ⟨rfl, by decide⟩
  | b :: bs, h => by
    have hb := h b List.mem_cons_self
    obtain ⟨ih, i2⟩ := n3_va bs (fun c hc => h c (List.mem_cons_of_mem _ hc))
    refine ⟨?_, by show (256 * vaB bs + b) % 16 ≤ 4; omega⟩
    show ((256 * vaB bs + b) + (256 * vaB bs + b) / 16) &&& (256 * mkB 15 bs.length + 15) = 256 * vaB (bs.map n3b) + n3b b
    have e : (256 * vaB bs + b) + (256 * vaB bs + b) / 16 = 256 * (vaB bs + vaB bs / 16) + (b + 16 * (vaB bs % 16) + b / 16) := by omega
    rw [e, and_256 (by omega) (by omega), ih]
    congr 1
    unfold n3b
    have q : ∀ z : Nat, z &&& 15 = z % 16 := fun z => Nat.and_two_pow_sub_one_eq_mod z 4
    rw [q, q]
    omega
theorem cnt_by : ∀ (n w : Nat), cntB (fun x => w.testBit x) (8 * n) = ((byB n w).map fun b => cntB (fun x => b.testBit x) 8).sum
  | 0, _ => rfl
  | n + 1, w => by
    show _ = cntB (fun x => (w % 256).testBit x) 8 + ((byB n (w / 256)).map fun b => cntB (fun x => b.testBit x) 8).sum
    rw [← cnt_by n (w / 256), show 8 * (n + 1) = 8 + 8 * n from by omega, cntB_add]
    congr 1
    · refine cntB_congr (fun x hx => ?_)
      show w.testBit x = (w % 2 ^ 8).testBit x
      rw [Nat.testBit_mod_two_pow, decide_eq_true hx, Bool.true_and]
    · refine cntB_congr (fun x hx => ?_)
      show w.testBit (8 + x) = (w / 2 ^ 8).testBit x
      rw [← Nat.shiftRight_eq_div_pow, Nat.testBit_shiftRight]

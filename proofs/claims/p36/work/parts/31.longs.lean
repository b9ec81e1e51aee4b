/-! the JDK's count of a long's bits -/
def uJ (v : Int64) : Nat := v.toBitVec.toNat
theorem uJ_lt (v : Int64) : uJ v < 18446744073709551616 := v.toBitVec.isLt
theorem uJ_bit (v : Int64) (x : Nat) : (uJ v).testBit x = bJ v x := BitVec.testBit_toNat _
theorem uJ_and (a b : Int64) : uJ (a &&& b) = uJ a &&& uJ b := by
  unfold uJ
  rw [Int64.toBitVec_and, BitVec.toNat_and]
theorem uJ_add (a b : Int64) : uJ (a + b) = (uJ a + uJ b) % 18446744073709551616 := by
  unfold uJ
  rw [Int64.toBitVec_add, BitVec.toNat_add]
theorem uJ_sub (a b : Int64) : uJ (a - b) = (18446744073709551616 - uJ b + uJ a) % 18446744073709551616 := by
  unfold uJ
  rw [Int64.toBitVec_sub, BitVec.toNat_sub]
theorem uJ_lus {v : Int64} {k : Nat} (hk : k < 64) : uJ (lus v k) = uJ v / 2 ^ k := by
  show ((v.toUInt64 >>> ((Int32.ofInt (k : Int)).toInt64.toUInt64 &&& Int64.toUInt64 63)).toBitVec).toNat = v.toBitVec.toNat / 2 ^ k
  rw [UInt64.toBitVec_shiftRight, BitVec.ushiftRight_eq', BitVec.toNat_ushiftRight, uh64 hk, Nat.shiftRight_eq_div_pow]
  rfl
def lb1 (v : Int64) : Int64 := v - (lus v 1 &&& Int64.ofInt 6148914691236517205)
def lb2 (v : Int64) : Int64 := (v &&& Int64.ofInt 3689348814741910323) + (lus v 2 &&& Int64.ofInt 3689348814741910323)
def lb3 (v : Int64) : Int64 := (v + lus v 4) &&& Int64.ofInt 1085102592571150095
def lb4 (v : Int64) : Int64 := v + lus v 8
def lb5 (v : Int64) : Int64 := v + lus v 16
def lb6 (v : Int64) : Int64 := v + lus v 32
theorem vaB_lt : ∀ (bs : List Nat), (∀ b ∈ bs, b < 256) → vaB bs < 256 ^ bs.length
  | [], _ => by decide
  | b :: bs, h => by
    have := vaB_lt bs (fun c hc => h c (List.mem_cons_of_mem _ hc))
    have hb := h b List.mem_cons_self
    show 256 * vaB bs + b < 256 ^ (bs.length + 1)
    rw [Nat.pow_succ]
    omega
theorem n2_lt : ∀ {b : Nat}, b % 16 ≤ 4 → b / 16 ≤ 4 → b ≤ 68 := by intro b h1 h2; omega
theorem vaB_le : ∀ (bs : List Nat), (∀ b ∈ bs, b ≤ 68) → 255 * vaB bs + 68 ≤ 68 * 256 ^ bs.length
  | [], _ => by decide
  | b :: bs, h => by
    have := vaB_le bs (fun c hc => h c (List.mem_cons_of_mem _ hc))
    have hb := h b List.mem_cons_self
    show 255 * (256 * vaB bs + b) + 68 ≤ 68 * 256 ^ (bs.length + 1)
    rw [Nat.pow_succ]
    omega
theorem lb_123 (v : Int64) : uJ (lb3 (lb2 (lb1 v))) = vaB ((byB 8 (uJ v)).map fun b => n3b (n2b (n1b b))) := by
  have hv := uJ_lt v
  have hb := byB_lt 8 (uJ v)
  have hl := byB_len 8 (uJ v)
  have he := byB_va 8 (uJ v) (by omega)
  have e1 : uJ (lb1 v) = vaB ((byB 8 (uJ v)).map n1b) := by
    have k := n1_va _ hb
    rw [hl, he] at k
    unfold lb1
    rw [uJ_sub, uJ_and, show (1 : Int) = ((1 : Nat) : Int) from rfl, uJ_lus (by omega), show uJ (Int64.ofInt 6148914691236517205) = mkB 85 8 from by decide +kernel, ← k, Nat.pow_one]
    have k1 : (uJ v / 2 &&& mkB 85 8) ≤ uJ v / 2 := Nat.and_le_left
    omega
  have hb1 : ∀ b ∈ (byB 8 (uJ v)).map n1b, b < 256 := by
    intro b h
    obtain ⟨c, hc, rfl⟩ := List.mem_map.mp h
    exact (by_2 (hb c hc)).1
  have hb2 : ∀ b ∈ ((byB 8 (uJ v)).map n1b).map n2b, b % 16 ≤ 4 ∧ b / 16 ≤ 4 := by
    intro b h
    obtain ⟨c, hc, rfl⟩ := List.mem_map.mp h
    obtain ⟨c2, hc2, rfl⟩ := List.mem_map.mp hc
    exact ⟨(by_2 (hb c2 hc2)).2.1, (by_2 (hb c2 hc2)).2.2.1⟩
  have e2 : uJ (lb2 (lb1 v)) = vaB (((byB 8 (uJ v)).map n1b).map n2b) := by
    have k := n2_va _ hb1
    rw [List.length_map, hl] at k
    unfold lb2
    rw [uJ_add, uJ_and, uJ_and, show (2 : Int) = ((2 : Nat) : Int) from rfl, uJ_lus (by omega), show uJ (Int64.ofInt 3689348814741910323) = mkB 51 8 from by decide +kernel, e1]
    show (_ + (vaB _ / 4 &&& _)) % _ = _
    rw [k]
    have h8 := vaB_lt _ (fun b h => Nat.lt_of_le_of_lt (n2_lt (hb2 b h).1 (hb2 b h).2) (by decide))
    rw [List.length_map, List.length_map, hl] at h8
    exact Nat.mod_eq_of_lt h8
  have h8 := vaB_le _ (fun b h => n2_lt (hb2 b h).1 (hb2 b h).2)
  have k := (n3_va _ hb2).1
  rw [List.length_map, List.length_map, hl] at h8 k
  unfold lb3
  rw [uJ_and, uJ_add, show (4 : Int) = ((4 : Nat) : Int) from rfl, uJ_lus (by omega), show uJ (Int64.ofInt 1085102592571150095) = mkB 15 8 from by decide +kernel, e2, Nat.mod_eq_of_lt (by omega)]
  show (_ + vaB _ / 16) &&& _ = _
  rw [k, List.map_map, List.map_map]
  rfl
theorem lb_456 {w : Int64} {a b c d e f g h : Nat} (hw : uJ w = vaB [a, b, c, d, e, f, g, h]) (ha : a ≤ 8) (hb : b ≤ 8) (hc : c ≤ 8) (hd : d ≤ 8) (he : e ≤ 8) (hf : f ≤ 8) (hg : g ≤ 8) (hh : h ≤ 8) : uJ (lb6 (lb5 (lb4 w))) % 128 = a + b + c + d + e + f + g + h := by
  obtain ⟨B7, h7⟩ : ∃ z, z = h := ⟨_, rfl⟩
  obtain ⟨B6, h6⟩ : ∃ z, z = 256 * B7 + g := ⟨_, rfl⟩
  obtain ⟨B5, h5⟩ : ∃ z, z = 256 * B6 + f := ⟨_, rfl⟩
  obtain ⟨B4, h4⟩ : ∃ z, z = 256 * B5 + e := ⟨_, rfl⟩
  obtain ⟨B3, h3⟩ : ∃ z, z = 256 * B4 + d := ⟨_, rfl⟩
  obtain ⟨B2, h2⟩ : ∃ z, z = 256 * B3 + c := ⟨_, rfl⟩
  obtain ⟨B1, h1⟩ : ∃ z, z = 256 * B2 + b := ⟨_, rfl⟩
  obtain ⟨B0, h0⟩ : ∃ z, z = 256 * B1 + a := ⟨_, rfl⟩
  have w0 : uJ w = B0 := by
    rw [hw, h0, h1, h2, h3, h4, h5, h6, h7]
    simp only [vaB, Nat.mul_zero, Nat.zero_add]
  clear hw
  have b6 : B6 ≤ 2056 := by omega
  have b5 : B5 ≤ 526344 := by omega
  have b4 : B4 ≤ 134744072 := by omega
  have b3 : B3 ≤ 34494482440 := by omega
  have b2 : B2 ≤ 8830587504648 := by omega
  have b1 : B1 ≤ 2260630401189896 := by omega
  have b0 : B0 ≤ 578721382704613384 := by omega
  have d1 : B0 / 256 = B1 := by clear b0 b1 b2 b3 b4 b5 b6 h1 h2 h3 h4 h5 h6 h7; omega
  have e1 : uJ (lb4 w) = B0 + B1 := by
    unfold lb4
    rw [uJ_add, show (8 : Int) = ((8 : Nat) : Int) from rfl, uJ_lus (by omega), w0]
    show (B0 + B0 / 256) % _ = _
    rw [d1]
    exact Nat.mod_eq_of_lt (by omega)
  have d2 : (B0 + B1) / 65536 = B2 + B3 := by clear b0 b1 b2 b3 b4 b5 b6 h4 h5 h6 h7 d1 e1 w0; omega
  have e2 : uJ (lb5 (lb4 w)) = B0 + B1 + (B2 + B3) := by
    unfold lb5
    rw [uJ_add, show (16 : Int) = ((16 : Nat) : Int) from rfl, uJ_lus (by omega), e1]
    show (B0 + B1 + (B0 + B1) / 65536) % _ = _
    rw [d2]
    exact Nat.mod_eq_of_lt (by omega)
  have d3 : (B0 + B1 + (B2 + B3)) / 4294967296 = B4 + B5 + (B6 + B7) := by
    have g1 : (B0 + B1 + (B2 + B3)) / 65536 = B2 + B3 + (B4 + B5) := by clear b0 b1 b2 b3 b4 b5 b6 h6 h7 d1 e1 w0 d2 e2; omega
    have g2 : (B2 + B3 + (B4 + B5)) / 65536 = B4 + B5 + (B6 + B7) := by clear b0 b1 b2 b3 b4 b5 b6 d1 e1 w0 d2 e2 g1 h0 h1; omega
    rw [← g2, ← g1, Nat.div_div_eq_div_mul]
  have e3 : uJ (lb6 (lb5 (lb4 w))) = B0 + B1 + (B2 + B3) + (B4 + B5 + (B6 + B7)) := by
    show uJ (lb5 (lb4 w) + lus (lb5 (lb4 w)) 32) = _
    rw [uJ_add, show (32 : Int) = ((32 : Nat) : Int) from rfl, uJ_lus (by omega), e2]
    show (B0 + B1 + (B2 + B3) + (B0 + B1 + (B2 + B3)) / 4294967296) % _ = _
    rw [d3]
    exact Nat.mod_eq_of_lt (by omega)
  rw [e3]
  clear b0 b1 b2 b3 b4 b5 b6 d1 d2 d3 e1 e2 e3 w0
  omega
theorem l2i_127 (v : Int64) : ian v.toInt32.toInt 127 = ((uJ v % 128 : Nat) : Int) := by
  refine bZ_ext (ti_in _) (by unfold inR; omega) (fun x hx => ?_)
  rw [bZ_and, bZ_nat (v := 127) (by omega) (by omega), bZ_nat (v := ((uJ v % 128 : Nat) : Int)) (by omega) (by omega), Int.toNat_natCast]
  show ((Int32.ofInt v.toInt32.toInt).toBitVec.getLsbD x && (127 : Nat).testBit x) = ((uJ v) % 2 ^ 7).testBit x
  rw [oi_ti, Nat.testBit_mod_two_pow, uJ_bit]
  have e : v.toInt32.toBitVec.getLsbD x = bJ v x := by
    show (v.toBitVec.signExtend 32).getLsbD x = v.toBitVec.getLsbD x
    rw [BitVec.signExtend_eq_setWidth_of_le _ (by decide), BitVec.getLsbD_setWidth, decide_eq_true hx, Bool.true_and]
  rw [e, show (127 : Nat) = 2 ^ 7 - 1 from rfl, Nat.testBit_two_pow_sub_one, Bool.and_comm]
theorem list8 {α : Type} : ∀ {l : List α}, l.length = 8 → ∃ a b c d e f g h, l = [a, b, c, d, e, f, g, h]
  | [a, b, c, d, e, f, g, h], _ => ⟨a, b, c, d, e, f, g, h, rfl⟩
theorem lb_all (v : Int64) : ian (lb6 (lb5 (lb4 (lb3 (lb2 (lb1 v)))))).toInt32.toInt 127 = (cntB (bJ v) 64 : Int) := by
  rw [l2i_127]
  congr 1
  have h0 := lb_123 v
  have hl := byB_len 8 (uJ v)
  have hb := byB_lt 8 (uJ v)
  have hc := cnt_by 8 (uJ v)
  rw [cntB_congr (c := bJ v) (fun x _ => uJ_bit v x)] at hc
  obtain ⟨a, b, c, d, e, f, g, h, hl⟩ := list8 hl
  rw [hl] at h0 hb hc
  have q : ∀ z ∈ [a, b, c, d, e, f, g, h], n3b (n2b (n1b z)) = cntB (fun x => z.testBit x) 8 ∧ cntB (fun x => z.testBit x) 8 ≤ 8 := fun z hz => ⟨(by_2 (hb z hz)).2.2.2, cntB_le _ 8⟩
  simp only [List.mem_cons, List.not_mem_nil, or_false, forall_eq_or_imp, forall_eq] at q
  obtain ⟨⟨qa, ra⟩, ⟨qb, rb⟩, ⟨qc, rc⟩, ⟨qd, rd⟩, ⟨qe, re⟩, ⟨qf, rf⟩, ⟨qg, rg⟩, qh, rh⟩ := q
  simp only [List.map_cons, List.map_nil, qa, qb, qc, qd, qe, qf, qg, qh] at h0
  rw [lb_456 h0 ra rb rc rd re rf rg rh, hc]
  simp only [List.map_cons, List.map_nil, List.sum_cons, List.sum_nil]
  omega
theorem e1101 {v : Int64} {M : Mm} : Ev 0 1101 [.inr (.inl v)] M (fun w M' => M' = M ∧ w = some (.inl (cntB (bJ v) 64 : Int))) := by
  have c6 := lb_all v
  show Wp 0 1101 0 [some (.inr (.inl v)), none] [] M _
  refine Wp.path (k := 8) [] (C := []) (pc' := 10) (ls' := [some (.inr (.inl (lb1 v))), none]) (st' := []) (M' := M) rfl trivial ?_
  revert c6
  generalize lb1 v = v1
  intro c6
  refine Wp.path (k := 10) [] (C := []) (pc' := 24) (ls' := [some (.inr (.inl (lb2 v1))), none]) (st' := []) (M' := M) rfl trivial ?_
  revert c6
  generalize lb2 v1 = v2
  intro c6
  refine Wp.path (k := 8) [] (C := []) (pc' := 34) (ls' := [some (.inr (.inl (lb3 v2))), none]) (st' := []) (M' := M) rfl trivial ?_
  revert c6
  generalize lb3 v2 = v3
  intro c6
  refine Wp.path (k := 6) [] (C := []) (pc' := 41) (ls' := [some (.inr (.inl (lb4 v3))), none]) (st' := []) (M' := M) rfl trivial ?_
  revert c6
  generalize lb4 v3 = v4
  intro c6
  refine Wp.path (k := 6) [] (C := []) (pc' := 48) (ls' := [some (.inr (.inl (lb5 v4))), none]) (st' := []) (M' := M) rfl trivial ?_
  revert c6
  generalize lb5 v4 = v5
  intro c6
  refine Wp.path (k := 6) [] (C := []) (pc' := 55) (ls' := [some (.inr (.inl (lb6 v5))), none]) (st' := []) (M' := M) rfl trivial ?_
  refine Wp.path (k := 4) [] (C := []) (pc' := 60) (ls' := [some (.inr (.inl (lb6 v5))), none]) (st' := [.inl (ian (lb6 v5).toInt32.toInt 127)]) (M' := M) rfl trivial ?_
  exact Wp.ret rfl ⟨rfl, by rw [c6]⟩

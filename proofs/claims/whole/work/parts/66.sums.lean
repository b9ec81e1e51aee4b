/-! the reference's sums of a phase -/
theorem b2i_c (b : Bool) : b2i b = 0 ∨ b2i b = 1 := by cases b; exact Or.inl rfl; exact Or.inr rfl
theorem hol_c (P : Int → Int → Bool) (x y : Int) : hol P x y = 0 ∨ hol P x y = 1 := by unfold hol; split; exact Or.inl rfl; exact Or.inr rfl
noncomputable def vH (P : Int → Int → Bool) (n : Nat) : Int := sumN (fun c => hol P (vX P (vS P c)) (vY P (vS P c))) n
theorem vH_bd (P : Int → Int → Bool) (n : Nat) : 0 ≤ vH P n ∧ vH P n ≤ n := by
  have := sumN_bd (g := fun c => hol P (vX P (vS P c)) (vY P (vS P c))) (B := 1) (n := n) fun k _ => by
    rcases hol_c P (vX P (vS P k)) (vY P (vS P k)) with e | e <;> rw [e] <;> omega
  unfold vH
  omega
theorem c1037 {p N : Nat} {P : Int → Int → Bool} {M : Mm} {Q : Int → Mm → Prop} (h18 : M.1 10 0 18 = N) (hp : p < N) (h12 : N ≤ 12) (hM : Mds M p P) (hP : Sok P) (hQ : Q (vE P) M) : E_1037 (p : Int) M Q := by
  have h78 := hP.2.2.1
  refine s_1037_0 ⟨fun h => by omega, fun _ => ?_⟩
  rw [Int.toNat_natCast, hM.2.1.1]
  refine ⟨by omega, by omega, ?_⟩
  unfold stV
  rw [show (161 * (p : Int) + (vN P : Int)).toNat = 161 * p + vN P by omega, hM.2.1.2.1 _ (Nat.le_refl _)]
  exact hQ
theorem c1038 {p N : Nat} {P : Int → Int → Bool} {M : Mm} {Q : Int → Mm → Prop} (h18 : M.1 10 0 18 = N) (hp : p < N) (h12 : N ≤ 12) (hM : Mds M p P) (hP : Sok P) (hQ : Q (vH P (vN P)) M) : E_1038 (p : Int) M Q := by
  have h78 := hP.2.2.1
  refine s_1038_0 ?_
  have key : ∀ (s c : Nat), c + s = vN P → L_1038_4 (p : Int) (vH P c) (c : Int) M Q := by
    intro s
    induction s with
    | zero =>
      intro c hc
      refine s_1038_4 ⟨fun h => by omega, fun _ => ?_⟩
      rw [Int.toNat_natCast, hM.2.1.1]
      refine ⟨by omega, fun _ => ?_, fun h => by omega⟩
      rw [show c = vN P by omega]; exact hQ
    | succ s ih =>
      intro c hc
      have ih := ih (c + 1) (by omega)
      have hb := vH_bd P c
      have hh := hol_c P (vX P (vS P c)) (vY P (vS P c))
      refine s_1038_4 ⟨fun h => by omega, fun _ => ?_⟩
      rw [Int.toNat_natCast, hM.2.1.1, show (160 * (p : Int) + (c : Int)).toNat = 160 * p + c by omega, hM.2.2 c (by omega)]
      refine ⟨by omega, fun h => by omega, fun _ => ⟨⟨by omega, by omega, by omega, by omega⟩, fun x ex => ⟨by omega, ?_⟩⟩⟩
      rw [ex]
      exact ih
  exact key (vN P) 0 (by omega)
/-- a side turns left where one cell of four is in -/
theorem turn_fl {P : Int → Int → Bool} (hP : Sok P) {c j : Nat} (hc : c < vN P) (h1 : vS P c ≤ j) (h2 : j < vS P (c + 1)) : sD P (nxi (vS P c) (vS P (c + 1)) j) = (sD P j + 1) % 4 ↔ fl P (vX P (nxi (vS P c) (vS P (c + 1)) j)) (vY P (nxi (vS P c) (vS P (c + 1)) j)) = true := by
  obtain ⟨hb, n, hn, hx, hy⟩ := (hP.1.1.1.2.1 c hc).2.1 j h1 h2
  have hE := RunN.ei hP.2.1 (bn_lv hP.2.1 hb) hn
  have hb2 := hn.2.2
  rw [← hx, ← hy] at hE hb2
  obtain ⟨k1, k2⟩ := ei_lv hE hb2
  have hd : Dir (sD P j) := (bn_lv hP.2.1 hb).dir
  have e : lvd P (vX P j) (vY P j) = sD P j := rfl
  rw [e] at k1 k2
  show lvd P _ _ = _ ↔ decide _ = true
  rw [decide_eq_true_iff]
  unfold Dir at hd
  constructor
  · intro h
    refine Classical.byContradiction fun hne => ?_
    have := k2 hne
    omega
  · exact k1
/-- what is counted -/
noncomputable def bS (f : Nat → Int) (p : Nat) (w : Int) (i : Nat) : Bool := if w = 7 then decide (1 < cntB (oQ (lay f 1) (lay f (2 * p + 1)) (2 * p + 1) i) (vE (lay f 1))) else fl (lay f (2 * p + 1)) (vX (lay f (2 * p + 1)) i) (vY (lay f (2 * p + 1)) i)
noncomputable def smV (f : Nat → Int) (p : Nat) (w : Int) : Int := if w = 6 then cum (vL (lay f (2 * p + 1))) (vE (lay f (2 * p + 1))) else (cntB (bS f p w) (vE (lay f (2 * p + 1))) : Int)
theorem c1069 {p : Nat} {w : Int} {f : Nat → Int} {M : Mm} {Q : Int → Mm → Prop} (hp : p < 12) (hM : Mds M p (lay f (2 * p + 1))) (hg : EG (lay f 1)) (hE : Edm M (lay f 1)) (hQ : ∀ M', R10 S41 M M' → Q (smV f p w) M') : E_1069 (p : Int) w M Q := by
  have hP := Sok.of hM.1
  have h78 := hP.2.2.1
  have h312 := hP.2.2.2.1
  have h0 : vS (lay f (2 * p + 1)) 0 = 0 := hM.1.1.1.1
  refine s_1069_0 ?_
  by_cases hw : w = 6
  · unfold smV at hQ
    rw [if_pos hw] at hQ
    have key : ∀ (s c : Nat) (M' : Mm), c + s = vN (lay f (2 * p + 1)) → R10 S41 M M' → L_1069_5 (p : Int) w (cum (vL (lay f (2 * p + 1))) (vS (lay f (2 * p + 1)) c)) (c : Int) M' Q := by
      intro s
      induction s with
      | zero =>
        intro c M' hc r
        have m2 := hM.r10 r
        refine s_1069_5 ⟨by omega, fun _ => ?_, fun h => by rw [Int.toNat_natCast, m2.2.1.1] at h; omega⟩
        rw [show c = vN (lay f (2 * p + 1)) by omega]
        exact hQ M' r
      | succ s ih =>
        intro c M' hc r
        have m2 := hM.r10 r
        obtain ⟨-, z2, z3⟩ := m2.sz (show c < vN (lay f (2 * p + 1)) by omega)
        have b1 := cum_le hP (Nat.zero_le (vS (lay f (2 * p + 1)) c)) (by omega)
        have b2 := cum_le hP (show vS (lay f (2 * p + 1)) c ≤ vS (lay f (2 * p + 1)) (c + 1) by omega) (by omega)
        have b3 : cum (vL (lay f (2 * p + 1))) 0 = 0 := rfl
        refine s_1069_5 ⟨by omega, fun h => by rw [Int.toNat_natCast, m2.2.1.1] at h; omega, fun _ => ⟨fun h => absurd hw h, fun _ => c1040 hp m2 (by omega) fun M2 r2 => ⟨by omega, fun x ex => ⟨by omega, ?_⟩⟩⟩⟩
        have := ih (c + 1) M2 (by omega) (r.tr (r2.up fun q h => Or.inl h))
        rw [ex, show cum (vL (lay f (2 * p + 1))) (vS (lay f (2 * p + 1)) c) + (cum (vL (lay f (2 * p + 1))) (vS (lay f (2 * p + 1)) (c + 1)) - cum (vL (lay f (2 * p + 1))) (vS (lay f (2 * p + 1)) c)) = cum (vL (lay f (2 * p + 1))) (vS (lay f (2 * p + 1)) (c + 1)) by omega]
        exact this
    have := key (vN (lay f (2 * p + 1))) 0 M (by omega) R10.rf
    rw [h0] at this
    exact this
  · unfold smV at hQ
    rw [if_neg hw] at hQ
    have key : ∀ (s c : Nat) (M' : Mm), c + s = vN (lay f (2 * p + 1)) → R10 S41 M M' → L_1069_5 (p : Int) w (cntB (bS f p w) (vS (lay f (2 * p + 1)) c) : Int) (c : Int) M' Q := by
      intro s
      induction s with
      | zero =>
        intro c M' hc r
        have m2 := hM.r10 r
        refine s_1069_5 ⟨by omega, fun _ => ?_, fun h => by rw [Int.toNat_natCast, m2.2.1.1] at h; omega⟩
        rw [show c = vN (lay f (2 * p + 1)) by omega]
        exact hQ M' r
      | succ s ih =>
        intro c M' hc r
        have m2 := hM.r10 r
        have hcN : c < vN (lay f (2 * p + 1)) := by omega
        obtain ⟨z1, z2, z3⟩ := m2.sz hcN
        refine s_1069_5 ⟨by omega, fun h => by rw [Int.toNat_natCast, m2.2.1.1] at h; omega, fun _ => ⟨fun _ => ?_, fun h => absurd h hw⟩⟩
        rw [z1]
        refine ⟨⟨by omega, by omega, by omega, by omega, by unfold inR; omega⟩, fun x5 e5 => ?_⟩
        have h47 : ∀ (t i : Nat) (M2 : Mm), vS (lay f (2 * p + 1)) c + i + t = vS (lay f (2 * p + 1)) (c + 1) → R10 S41 M M2 → L_1069_47 (p : Int) w (cntB (bS f p w) (vS (lay f (2 * p + 1)) c + i) : Int) (c : Int) x5 (i : Int) M2 Q := by
          intro t
          induction t with
          | zero =>
            intro i M2 hi r2
            refine s_1069_47 ⟨fun _ => ⟨by omega, ?_⟩, fun h => by omega⟩
            rw [show vS (lay f (2 * p + 1)) c + i = vS (lay f (2 * p + 1)) (c + 1) by omega]
            exact ih (c + 1) M2 (by omega) r2
          | succ t iht =>
            intro i M2 hi r2
            have m3 := hM.r10 r2
            have hcb : cntB (bS f p w) (vS (lay f (2 * p + 1)) c + i) ≤ vS (lay f (2 * p + 1)) c + i := cntB_le _ _
            have hstep : ∀ (b : Int) (M3 : Mm), R10 S41 M2 M3 → b = (if bS f p w (vS (lay f (2 * p + 1)) c + i) = true then 1 else 0) → ((-2147483648 ≤ (cntB (bS f p w) (vS (lay f (2 * p + 1)) c + i) : Int) + b ∧ (cntB (bS f p w) (vS (lay f (2 * p + 1)) c + i) : Int) + b ≤ 2147483647)) ∧ (∀ x3_1 : Int, x3_1 = (cntB (bS f p w) (vS (lay f (2 * p + 1)) c + i) : Int) + b → (((-2147483648 ≤ (i : Int) + 1 ∧ (i : Int) + 1 ≤ 2147483647)) ∧ (L_1069_47 (p : Int) w x3_1 (c : Int) x5 ((i : Int) + 1) M3 Q))) := by
              intro b M3 r3 eb
              have hb01 : b = 0 ∨ b = 1 := by rw [eb]; split; exact Or.inr rfl; exact Or.inl rfl
              refine ⟨by omega, fun x ex => ⟨by omega, ?_⟩⟩
              have := iht (i + 1) M3 (by omega) (r2.tr r3)
              rw [show vS (lay f (2 * p + 1)) c + (i + 1) = (vS (lay f (2 * p + 1)) c + i) + 1 by omega] at this
              rw [ex, eb]
              by_cases hB : bS f p w (vS (lay f (2 * p + 1)) c + i) = true
              · rw [if_pos hB]
                rw [cntB_y hB] at this
                exact this
              · rw [if_neg hB, Int.add_zero]
                rw [cntB_n (by simpa using hB)] at this
                exact this
            refine s_1069_47 ⟨fun h => by omega, fun _ => ⟨fun h7 => ⟨⟨by omega, by omega, by omega, by omega, by omega⟩, fun d ed => ?_⟩, fun h7 => ?_⟩⟩
            · rw [tmod_p (by omega), e5] at ed
              obtain ⟨j, hj, hjn, hj1, hj2⟩ : ∃ j : Nat, d = j ∧ nxi (vS (lay f (2 * p + 1)) c) (vS (lay f (2 * p + 1)) (c + 1)) (vS (lay f (2 * p + 1)) c + j) = vS (lay f (2 * p + 1)) c + i ∧ vS (lay f (2 * p + 1)) c ≤ vS (lay f (2 * p + 1)) c + j ∧ vS (lay f (2 * p + 1)) c + j < vS (lay f (2 * p + 1)) (c + 1) := by
                by_cases hi0 : i = 0
                · refine ⟨vS (lay f (2 * p + 1)) (c + 1) - vS (lay f (2 * p + 1)) c - 1, ?_, ?_, by omega, by omega⟩
                  · rw [ed, hi0, Int.emod_eq_of_lt (by omega) (by omega)]; omega
                  · unfold nxi
                    rw [if_pos (by omega)]; omega
                · refine ⟨i - 1, ?_, ?_, by omega, by omega⟩
                  · rw [ed, show (i : Int) + ((vS (lay f (2 * p + 1)) (c + 1) - vS (lay f (2 * p + 1)) c : Nat) : Int) - 1 = ((i : Int) - 1) + ((vS (lay f (2 * p + 1)) (c + 1) - vS (lay f (2 * p + 1)) c : Nat) : Int) by omega, Int.add_emod_right, Int.emod_eq_of_lt (by omega) (by omega)]; omega
                  · unfold nxi
                    rw [if_neg (by omega)]; omega
              rw [hj]
              refine c1039s hp m3 hcN hj2 fun M4 r4 s4 x7 e7 => c1039s hp (m3.r10 r4) hcN (by omega) fun M5 r5 s5 => ?_
              have e7' : x7 = sD (lay f (2 * p + 1)) (vS (lay f (2 * p + 1)) c + j) := e7.trans s4.1
              have hd := (hP.2.2.2.2 (vS (lay f (2 * p + 1)) c + j) (by omega)).1
              rw [← e7'] at hd
              have hx7 : 0 ≤ x7 ∧ x7 ≤ 3 := by unfold Dir at hd; omega
              have htf := turn_fl hP hcN hj1 hj2
              rw [hjn, ← e7'] at htf
              refine ⟨by omega, fun d1 ed1 b eb => ?_⟩
              rw [tmod_p (by omega)] at ed1
              rw [s5.1] at eb
              refine hstep b M5 ((r4.tr r5).up fun q h => Or.inl h) ?_
              rw [eb, ed1]
              unfold bS
              rw [if_neg h7]
              by_cases hf : fl (lay f (2 * p + 1)) (vX (lay f (2 * p + 1)) (vS (lay f (2 * p + 1)) c + i)) (vY (lay f (2 * p + 1)) (vS (lay f (2 * p + 1)) c + i)) = true
              · rw [if_pos hf, if_neg (fun k => k (htf.mpr hf))]
              · rw [if_neg hf, if_pos (fun k => hf (htf.mp k))]
            · refine c1046 hp m3 hcN (by omega) hg (hE.r10 r2 (by unfold S41; omega)) fun M4 r4 k1 k2 k3 b eb => hstep b M4 r4 ?_
              rw [eb, k1]
              unfold bS
              rw [if_pos h7]
              by_cases hh : 1 < cntB (oQ (lay f 1) (lay f (2 * p + 1)) (2 * p + 1) (vS (lay f (2 * p + 1)) c + i)) (vE (lay f 1))
              · rw [decide_eq_true hh, if_pos rfl, if_neg (by omega)]
              · rw [decide_eq_false hh, if_pos (by omega), if_neg (by decide)]
        exact h47 (vS (lay f (2 * p + 1)) (c + 1) - vS (lay f (2 * p + 1)) c) 0 M' (by omega) r
    have := key (vN (lay f (2 * p + 1))) 0 M (by omega) R10.rf
    rw [h0] at this
    exact this

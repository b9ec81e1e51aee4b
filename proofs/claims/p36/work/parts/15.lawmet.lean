/-! the law's own methods see the script; the law's run -/
theorem scW_y {mj : Nat} {S : Sc} (h : Nat.ble 1200 mj = true) : scW mj S = S := by
  cases S with
  | none => rfl
  | some p =>
    show (bif Nat.ble 1200 mj then some p else none) = some p
    rw [h]
    rfl
theorem scW_n {mj : Nat} {S : Sc} (h : Nat.ble 1200 mj = false) : scW mj S = none := by
  cases S with
  | none => rfl
  | some p =>
    show (bif Nat.ble 1200 mj then some p else none) = none
    rw [h]
    rfl
theorem scOK.move {S : Sc} {ad : Nat → Nat → Nat} {A : Nat → Prop} {s U : State} {H0 H : Heap} {locs : List Loc} (h : scOK S ad A s H0) (hS : va_S A H0 H locs) (hA : ∀ q, inW ad q → A q) (hU : U.heap = H) (hW : s.vm.Alike U.vm) : scOK S ad (inW ad) U U.heap := by
  intro n xs e
  obtain ⟨xs', h1, h2, h3, h4⟩ := h n xs e
  refine ⟨xs', ?_, ?_, fun z => h3 (hA _ z), h4⟩
  · rw [hU]
    exact va_X.moved hW (va_X.kept h1 (hS.2.1 _ h2 h3))
  · rw [hU]
    exact Nat.lt_of_lt_of_le h2 hS.1
def PcL (S : Sc) (D : va_G) (cy : Cy) (ad : Nat → Nat → Nat) (M : Mm) (as : List Vv) : Array Value → State → Prop := va_Pc (as.map (conc ad)) (fun U => WoA D cy ad M U ∧ scOK S ad (inW ad) U U.heap)
theorem PcL_blind {S : Sc} {D : va_G} {cy : Cy} {ad : Nat → Nat → Nat} {M : Mm} {as : List Vv} : FrameBlind (PcL S D cy ad M as) := fun a U g mk h =>
  ⟨h.1, ⟨h.2.1.1, va_K.moved (u := U) (U := U.calling g mk a) (Vm.Alike.refl U.vm) h.2.1.2.1, ENV.same (u := U) (U := U.calling g mk a) rfl h.2.1.2.2⟩, fun n xs e => by
    obtain ⟨xs', h1, h2, h3, h4⟩ := h.2.2 n xs e
    exact ⟨xs', va_X.moved (u := U) (U := U.calling g mk a) (Vm.Alike.refl U.vm) h1, h2, h3, h4⟩⟩
section ML
variable {p : Program} {l : Launch} {e : Env} {R : Room} {s : State} {m : MethodId} {args : Array Value} {below : List Frame} {meth : Method} {c : Code} {H : Heap} {locs : List Loc} {cells slots : Nat} {Q : State → Prop}
variable {D : va_G} {cy : Cy} {ad : Nat → Nat → Nat} {A : Nat → Prop} {H0 : Heap} {mi : Nat} {S : Sc}
theorem pcL_of (F : Fr p s m args c D cy mi) (hE : ENV A s s.heap) (hA : ∀ q, inW ad q → A q) (hSc : scOK S ad A s s.heap) {as : List Vv} {M : Mm} (hP : va_P D vwCl (wsW cy ad M) H) (hS : va_S A s.heap H locs) : ∀ U : State, U.heap = H → s.WarmedH U.vm → PcL S D cy ad M as (as.map (conc ad)).toArray U := fun U hU hW =>
  ⟨rfl, ⟨by rw [hU]; exact hP, va_K.moved hW.alike F.2.2.2.2.2, by rw [hU]; exact ((hE.kept hS).narrow hA).warm hW⟩, hSc.move hS hA hU hW.alike⟩
end ML
/-- the contract of a method of the law's own -/
theorem metL {S : Sc} (hS : ∀ n xs, S = some (n, xs) → inR n ∧ ∀ j, inR (xs j)) : ∀ (N n d mi : Nat) (as : List Vv) (M : Mm) (v : Option Vv) (M' : Mm), n < N → mi ∈ miL → entAlen as ≤ lM mi → okS as → okM M → ex n S d mi 0 (entL (lM mi) as) [] M = some (.inl v, M', 0) → ∀ (l : Launch) (D : va_G) (cy : Cy) (ad : Nat → Nat → Nat), apart ad → Met l (yM mi) (wsA mi) (rmA d) (PcL S D cy ad M as) (QcA D cy ad M' v) 0 0 (inW ad) := by
  intro N
  induction N with
  | zero => intro n d mi as M v M' hn; omega
  | succ N ih =>
    intro n d mi as M v M' hn hmi hlen hs hm h l D cy ad hap
    obtain ⟨m1, m2, m3, m4, m5, m6⟩ := mi_of hmi
    refine Met.ofW (cc := cM mi) (maxL := lM mi) (ret := rM mi) m1 rfl ?_
    intro p e s m args below meth c s₁ B hml hv
    obtain ⟨rfl, ⟨hP, hK, hE⟩, hSc⟩ := hv
    have hts := atoms_spec (ws := wsA mi) B.pre
    have hown : s.vm.findClass (yM mi).cls = some m.cls := findClass_of_methodNamed B.named
    have hl := lv_entry (as.map (conc ad)) (n := lM mi) (by rw [lgsl_len]; exact hlen)
    rw [lg_entry_eq]
    have F : Fr p s m (as.map (conc ad)).toArray c D cy mi := ⟨B.exec, B.bytes, hml, hown, fun w hw => hts w (List.mem_cons_of_mem _ hw), hK⟩
    have hL : LR ad (lM mi) (entL (lM mi) as) ((lg_sl (as.map (conc ad)) ++ List.replicate (lM mi - (lg_sl (as.map (conc ad))).length) Slot.unset).toArray) := ⟨entL_len hlen, by rw [entL_asc]; exact hl⟩
    refine runG (S := S) (A := inW ad) (R := rmA d) (N := n) (d := d) hS (meL_b mi hmi) F hap (fun q h => h) hSc ⟨by show 1 ≤ d + 1; omega, by show 40 ≤ 44 * (d + 1); omega⟩ ?_ n (Nat.le_refl n) 0 (entL (lM mi) as) [] M (.inl v) M' 0 _ s.heap [] 0 0 h (okL_ent hs) okS_nil hm hL hP va_S.rf (Nat.le_refl _) (Nat.le_refl _) ?_
    · intro n1 d' mj as1 rest i pc len a pc' x ls st M0 o1 M1 q1 lsC H locs cells slots hn1 hd d0 d1 d2 d3 h1 hl1 hs1 hm1 h2 h6 hct hL1 hP1 hS1 hc1 hc2 kk
      have hc1 : cells + cnt1 mj q1 ≤ 0 := hc1
      have hc2 : slots + 6 * cnt1 mj q1 ≤ 0 := hc2
      obtain ⟨g1, g2, g3, g4, g5, g6, g7, g8, g9⟩ := call_is d3 h1
      have hk0 : kdM mj = 0 := by rw [g3]; exact kd_0 g7
      have hcn : cnt1 mj q1 = q1 := by unfold cnt1; rw [hk0]; rfl
      have hq1 : q1 = 0 := by omega
      have hce : cells = 0 := by omega
      have hsl : slots = 0 := by omega
      subst hq1 hce hsl hd
      cases o1 with
      | inr X =>
        exfalso
        exact no_thr _ _ _ _ _ _ _ _ _ _ _ (g3 ▸ g7) (by rw [hk0]; decide) h2
      | inl w =>
        have hmj : mj ∈ miL := g3 ▸ g7
        obtain ⟨p1, p2⟩ := okS_pop (g3 ▸ g4) hs1
        cases hb : Nat.ble 1200 mj with
        | true =>
          rw [scW_y hb] at h2
          have hM := ih n1 d' mj as1 M0 w M1 (by omega) hmj (by rw [g3]; exact g6) p1 hm1 h2 l D cy ad hap
          exact callWG PcL_blind F hE (fun q h => h) d1 d2 d3 h1 hs1 hk0 hM (pcL_of F hE (fun q h => h) hSc hP1 hS1) (by show d' + 2 ≤ d' + 1 + 1; omega) (by show 44 * (d' + 2) ≤ 44 * (d' + 1 + 1); omega) ⟨Nat.zero_le _, Nat.zero_le _⟩ hL1 hP1 hS1 (fun H1 locs1 f1 f2 => by
            have k := kk H1 locs1 lsC pc' ls (w.toList ++ rest) ⟨rfl, rfl, rfl⟩ hL1 f1 f2
            rw [hcn] at k
            exact k)
        | false =>
          rw [scW_n hb] at h2
          have hM := metA (n1 + 1) n1 d' mj as1 M0 w M1 (by omega) hmj hk0 (by rw [g3]; exact g6) p1 hm1 h2 l D cy ad hap
          exact callWG PcA_blind F hE (fun q h => h) d1 d2 d3 h1 hs1 hk0 hM (pcA_of F hE (fun q h => h) hP1 hS1) (by show d' + 2 ≤ d' + 1 + 1; omega) (by show 44 * (d' + 2) ≤ 44 * (d' + 1 + 1); omega) ⟨Nat.zero_le _, Nat.zero_le _⟩ hL1 hP1 hS1 (fun H1 locs1 f1 f2 => by
            have k := kk H1 locs1 lsC pc' ls (w.toList ++ rest) ⟨rfl, rfl, rfl⟩ hL1 f1 f2
            rw [hcn] at k
            exact k)
    · intro H1 locs1 lsC1 i pc len a x ls st d0 d1 d2 d3 h1 _ _ _ hP1 hS1
      exact retW F m4 B.returns B.notSynchronized d1 d2 d3 h1 hP1 hS1
def inTb (w : Cond) : Bool := lw_tbl.any fun z => decide (z = w)
def inG (w : Cond) : Bool := lw_good.any fun z => decide (z = w)
theorem inTb_m {w : Cond} (h : inTb w = true) : w ∈ lw_tbl := by
  obtain ⟨z, hz, e⟩ := List.any_eq_true.mp h
  rw [← of_decide_eq_true e]; exact hz
theorem inG_m {w : Cond} (h : inG w = true) : w ∈ lw_good := by
  obtain ⟨z, hz, e⟩ := List.any_eq_true.mp h
  rw [← of_decide_eq_true e]; exact hz
theorem and5 {a b c d e : Bool} (h : (a && b && c && d && e) = true) : a = true ∧ b = true ∧ c = true ∧ d = true ∧ e = true := by
  cases a <;> cases b <;> cases c <;> cases d <;> cases e <;> first | exact ⟨rfl, rfl, rfl, rfl, rfl⟩ | cases h

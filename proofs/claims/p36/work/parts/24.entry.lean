/-! the law from its entry: what is left is a run of the abstract machine -/
set_option maxRecDepth 1000000 in
theorem ao_b : inTb (.arrayOver (.object phN)) = true := by decide +kernel
section WS
variable {s : State} {args : Array Value}
theorem env0 (hts : ∀ w ∈ lw_tbl, w.before args s = true) : ENV (fun q => s.heap.size ≤ q) s s.heap := ⟨fun w hw hk => va_Nw.of (wkind_tab hk) (hts w hw), trivial⟩
theorem known0 (hts : ∀ w ∈ lw_tbl, w.before args s = true) : ∃ (D : va_G) (cy : Cy), va_K D vwCl (tysW cy) s := by
  have hg : ∀ w ∈ lw_good, w.before args s = true := fun w hw => hts w (List.mem_filter.mp hw).1
  have h1 : ∀ c : Nat, ∃ u : ClassId × (Nat → Nat), c < 10 → u_Kn s (RR' c) (TT c) (nF c) u.1 u.2 := by
    intro c
    by_cases hc : c < 10
    · obtain ⟨i1, -, -, -, -⟩ := and5 (List.all_eq_true.mp ic_b c (List.mem_range.mpr hc))
      obtain ⟨cC, iS, h⟩ := u_known (C := RR' c) (T := TT c) (N := nF c) (n := nF c) hg (ws_in hc) (hg _ (inG_m i1))
      exact ⟨(cC, iS), fun _ => h⟩
    · exact ⟨(0, fun _ => 0), fun h => absurd h hc⟩
  obtain ⟨f, hf⟩ := Classical.axiomOfChoice h1
  obtain ⟨c1, c2, c3⟩ := and3 ac_b
  have ar : ∀ {ty : FieldType}, inG (.arrayClass ty) = true → ∃ cA, ArrOfT s cA ty ∧ s.vm.findClass ("[" ++ ty.toString) = some cA := by
    intro ty h
    obtain ⟨c, k, comp, q1, q2, q3⟩ := Cond.arrayClass_spec (hg _ (inG_m h))
    exact ⟨c, fun n z => ⟨fun k h => (by cases h), k, q2, comp, q3⟩, q1⟩
  obtain ⟨cI, a1, a2⟩ := ar c1
  obtain ⟨cJ, a3, a4⟩ := ar c2
  obtain ⟨cZ, a5, a6⟩ := ar c3
  obtain ⟨comp, cP, kP, p1, p2, p3, p4, p5⟩ := Cond.arrayOver_spec (hts _ (inTb_m ao_b))
  refine ⟨(fun c => (f c).1, fun c => (f c).2), (cI, cJ, cZ, cP), fun c q hq => ?_, fun k q hq => ?_⟩
  · have hc : c < 10 := (List.getElem?_eq_some_iff.mp hq).1
    rw [cl_at hc] at hq
    cases hq
    exact hf c hc
  · match k, hq with
    | 0, hq => cases hq; exact ⟨a1, a2⟩
    | 1, hq => cases hq; exact ⟨a3, a4⟩
    | 2, hq => cases hq; exact ⟨a5, a6⟩
    | 3, hq => cases hq; exact ⟨fun n z => ⟨fun k h => (by cases h), kP, p3, comp, p4⟩, kP, comp, p3, p4, p1, p5⟩
    | k + 4, hq => cases hq
end WS
/-- what is owed of the abstract machine: on every script the law's run answers 1 -/
def LawRun : Prop := ∀ (L : Nat) (xs : Nat → Int), L ≤ 260 → (∀ j, inR (xs j)) → ∃ (n : Nat) (M' : Mm), ex n (some (L, xs)) 7 1222 8 st0L [] M0 = some (.inl (some (.inl 1)), M', 0)
theorem start_of_run (hrun : LawRun) {p : Program} {e : Env} {s : State} {m : MethodId} {below : List Frame} {meth : Method} {c : Code} (l : Launch) (hflags : l.flags = flags0) {b L : Nat} {xs : Nat → Int32} (hL : L ≤ 260) (C0 : lw_At p s m meth c b L xs) : W p l e room_1 s m #[Value.ref b] below meth c s.heap [] 0 0 (lw_Z below #[Value.ref b] s) (entryFrame m ([Value.ref b] : List Value).toArray 27) := by
  obtain ⟨hx, hb, hr, hml, hown, hts, hX, hbl, hlocks, hgv⟩ := id C0
  have hE := env0 hts
  obtain ⟨D, cy, hK⟩ := known0 hts
  have F : Fr p s m #[Value.ref b] c D cy (mI 10) := ⟨hx, hb, hml, hown, fun w hw => hts w (List.mem_filter.mp hw).1, hK⟩
  have hent := lv_entry ([Value.ref b]) (n := 27) (Nat.le_of_ble_eq_true rfl)
  rw [lg_entry_eq]
  have hLR : LR (adL b []) (lM (mI 10)) ls0L ((lg_sl ([Value.ref b]) ++ List.replicate (27 - (lg_sl ([Value.ref b])).length) Slot.unset).toArray) := ⟨rfl, hent⟩
  obtain ⟨n, M', run⟩ := hrun L (fun j => (xs j).toInt) hL (fun j => ti_in _)
  have hlen := hp_l
  have hslo := hp_s
  have key := aRun 5000 5 10 0 ls0L [] [] 8 lsF hpF made p l e room_1 s m #[Value.ref b] below meth c (lw_Z below #[Value.ref b] s) D cy b (fun q => s.heap.size ≤ q) [] _ s.heap [] 0 0 F (fun h => absurd h (by omega)) hE.1 (hts _ (inTb_m ao_b)) (fun q hq => hq) (by show 5 + 3 ≤ 10; omega) (by show 44 * (5 + 2) ≤ 358; omega) rfl hLR (fun k q h => (by cases h)) ⟨fun i j p q h => (by cases h), fun k q h => (by cases h)⟩ va_S.rf (Nat.le_refl _) (Nat.le_refl _) (by rw [hlen]; show 317 - 0 ≤ 600086; omega) (by rw [hslo]; show 58765 - 0 ≤ 7301442; omega) (fun new H1 locs1 lsC1 h1 h2 h3 h4 h5 h6 => ?_)
  · exact key
  · rw [List.nil_append] at h3 h4 h5
    have hnl : new.length = hpF.length := by rw [← h1]; rfl
    obtain ⟨ha1, ha2⟩ := apartF hnl h5
    have h3' : LR (adF b new) 27 st0L lsC1 := by
      refine ⟨rfl, lv_weak h3.2 ?_⟩
      intro q hq
      have e1 : ascF (adF b new) 0 st0L = [(0, .ref (adF b new 51 0)), (1, .ref (adF b new 9 0))] := rfl
      have e2 : ascF (adL b new) 0 lsF = [(0, .ref b), (1, .ref (new.getD 0 0))] := rfl
      rw [e1, adF_n (t := 9) (by omega), pos_x] at hq
      rw [e2]
      exact hq
    exact lawW l hL C0 ha1 ha2 rfl hK hE M0_ok h3' (worldF hnl h4) h6 (by omega) (by rw [hlen]; omega) (by rw [hslo]; omega) run

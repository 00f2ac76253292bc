theorem mem_i {w : Cond} (i : Nat) (h : lw_tbl[i]? = some w) : w ∈ lw_tbl := List.mem_of_getElem? h
theorem aoK {s : State} {C : String} (h : va_AO C s) : ∃ cA : ClassId, ArrOfT s cA (.object C) ∧ va_RA s cA (.object C) := by
  obtain ⟨comp, c, k, h1, -, h3, h4, h5⟩ := Cond.arrayOver_spec h
  exact ⟨c, fun N z => ⟨(fun k h => by cases h), k, h3, comp, h4⟩, k, comp, h3, h4, h1, h5⟩
theorem aiK {s : State} {args : Array Value} (h : (Cond.arrayClass .int).before args s = true) : ∃ cA : ClassId, ArrOfT s cA .int ∧ va_RA s cA .int := by
  obtain ⟨c, k, comp, h1, h2, h3⟩ := Cond.arrayClass_spec h
  exact ⟨c, fun N z => ⟨(fun k h => by cases h), k, h2, comp, h3⟩, h1⟩
theorem abK {s : State} {args : Array Value} (h : (Cond.arrayClass .boolean).before args s = true) : ∃ cA : ClassId, ArrOfT s cA .boolean ∧ va_RA s cA .boolean := by
  obtain ⟨c, k, comp, h1, h2, h3⟩ := Cond.arrayClass_spec h
  exact ⟨c, fun N z => ⟨(fun k h => by cases h), k, h2, comp, h3⟩, h1⟩
def exQ (k : Nat) (N : Nat → Nat → Bool) (pc : Nat) (ls : List (Option Value)) : Prop := k = 87 ∧ N = nFin ∧ pc = 16 ∧ ls = [some (.ref 88), some (.ref 0), some (.ref 65), none]
set_option maxHeartbeats 4000000 in
theorem whole_start {p : Program} {e : Env} {s : State} {m : MethodId} {below : List Frame} {meth : Method} {c : Code} (l : Launch) {b L : Nat} {xs : Nat → Int32} (hL : L ≤ 384) (C0 : lw_At p s m meth c b L xs) : W p l e room_1 s m #[Value.ref b] below meth c s.heap [] 0 0 (lw_Z below #[Value.ref b] s) (entryFrame m ([Value.ref b] : List Value).toArray 4) := by
  obtain ⟨hx, hb, hr, hml, hown, hts, hX, hbl, hlocks, hgv⟩ := C0
  have hbig : ∀ w ∈ pmBig, w.before #[Value.ref b] s = true := fun w hw => hts w (List.mem_filter.mp hw).1
  -- the tables
  have ao5 : va_AO RX5 s := va_AO.of (hts _ (mem_i 79 (by decide +kernel)))
  have ao1 : va_AO RX1 s := va_AO.of (hts _ (mem_i 118 (by decide +kernel)))
  have ao0 : va_AO RX0 s := va_AO.of (hts _ (mem_i 196 (by decide +kernel)))
  obtain ⟨ci, hi1, hi2⟩ := aiK (hbig _ wb_24)
  obtain ⟨cz, hz1, hz2⟩ := abK (hbig _ wb_84)
  obtain ⟨c5, h51, h52⟩ := aoK ao5
  obtain ⟨c1, h11, h12⟩ := aoK ao1
  obtain ⟨c0, h01, h02⟩ := aoK ao0
  have hkn : ∀ k : Nat, ∃ x : ClassId × (Nat → Nat), ∀ q : vw_C, vwCl[k]? = some q → u_Kn s q.1 q.2.1 q.2.2 x.1 x.2 := by
    intro k
    by_cases hk : k < 8
    · have one : ∀ (C : String) (T : u_T) (n : Nat), (∀ w ∈ u_ws C T n, w ∈ pmBig) → Cond.instantiable C n ∈ pmBig → vwCl[k]? = some (C, T, n) → ∃ x : ClassId × (Nat → Nat), ∀ q : vw_C, vwCl[k]? = some q → u_Kn s q.1 q.2.1 q.2.2 x.1 x.2 := by
        intro C T n hw hi hq
        obtain ⟨cC, iS, hK⟩ := u_known hbig hw (hbig _ hi)
        refine ⟨(cC, iS), fun q hq2 => ?_⟩
        have := Option.some.inj (hq.symm.trans hq2)
        rw [← this]
        exact hK
      rcases (show k = 0 ∨ k = 1 ∨ k = 2 ∨ k = 3 ∨ k = 4 ∨ k = 5 ∨ k = 6 ∨ k = 7 by omega) with rfl | rfl | rfl | rfl | rfl | rfl | rfl | rfl
      · exact one RX0 TX0 9 iX0 wb_78 rfl
      · exact one RX1 TX1 3 iX1 wb_47 rfl
      · exact one RX2 TX2 2 iX2 wb_73 rfl
      · exact one RX3 TX3 12 iX3 wb_87 rfl
      · exact one RX4 TX4 6 iX4 wb_68 rfl
      · exact one RX5 TX5 2 iX5 wb_96 rfl
      · exact one RX6 TX6 14 iX6 wb_123 rfl
      · exact one RX7 TX7 32 iX7 wb_127 rfl
    · refine ⟨(0, fun _ => 0), fun q hq => ?_⟩
      have : k < 8 := (List.getElem?_eq_some_iff.mp hq).1
      omega
  obtain ⟨g, hg⟩ : ∃ g : Nat → ClassId × (Nat → Nat), ∀ (k : Nat) (q : vw_C), vwCl[k]? = some q → u_Kn s q.1 q.2.1 q.2.2 (g k).1 (g k).2 := ⟨fun k => Classical.choose (hkn k), fun k => Classical.choose_spec (hkn k)⟩
  -- the letters
  have hs := flat_of_before _ hgv
  have harr : (Cond.arrayOf (.static "HillSeer$Reader" "LETTERS" "[I") .int).before #[Value.ref b] s = true := hs _ (by decide +kernel)
  have hlen : (Cond.eq (.length (.static "HillSeer$Reader" "LETTERS" "[I")) (.int 6)).before #[Value.ref b] s = true := hs _ (by decide +kernel)
  have l0 : (Cond.eq (.elem (.static "HillSeer$Reader" "LETTERS" "[I") (.int 0)) (.int 104)).before #[Value.ref b] s = true := hs _ (by decide +kernel)
  have l1 : (Cond.eq (.elem (.static "HillSeer$Reader" "LETTERS" "[I") (.int 1)) (.int 98)).before #[Value.ref b] s = true := hs _ (by decide +kernel)
  have l2 : (Cond.eq (.elem (.static "HillSeer$Reader" "LETTERS" "[I") (.int 2)) (.int 119)).before #[Value.ref b] s = true := hs _ (by decide +kernel)
  have l3 : (Cond.eq (.elem (.static "HillSeer$Reader" "LETTERS" "[I") (.int 3)) (.int 102)).before #[Value.ref b] s = true := hs _ (by decide +kernel)
  have l4 : (Cond.eq (.elem (.static "HillSeer$Reader" "LETTERS" "[I") (.int 4)) (.int 105)).before #[Value.ref b] s = true := hs _ (by decide +kernel)
  have l5 : (Cond.eq (.elem (.static "HillSeer$Reader" "LETTERS" "[I") (.int 5)) (.int 114)).before #[Value.ref b] s = true := hs _ (by decide +kernel)
  have hAll : ∀ A : Nat → Prop, (∀ a : Nat, a < s.heap.size → ¬ A a) → ∃ t : Nat, (Term.static "HillSeer$Reader" "LETTERS" "[I").eval #[Value.ref b] s none [] s = some (.ref t) ∧ va_T .int t 6 (fun j => .int (pm_let j)) A s s.heap := by
    intro A hA
    refine va_Tof (by decide) harr (va_eqt hlen) (fun j hj => ?_) hA
    rcases (show j = 0 ∨ j = 1 ∨ j = 2 ∨ j = 3 ∨ j = 4 ∨ j = 5 by omega) with rfl | rfl | rfl | rfl | rfl | rfl
    · exact va_eqt l0
    · exact va_eqt l1
    · exact va_eqt l2
    · exact va_eqt l3
    · exact va_eqt l4
    · exact va_eqt l5
  obtain ⟨t, ht0, -⟩ := hAll (fun _ => False) (fun _ _ h => h)
  -- the cells' addresses
  let X : pmX := (fun q => if q < 87 then s.heap.size + q else if q = 87 then t else b, ((fun k => (g k).1), fun k => (g k).2), fun k => if k = 0 then ci else if k = 1 then cz else if k = 2 then c5 else if k = 3 then c1 else c0, L, fun j => ((List.range L).map xs).getD j 0)
  have hX0 : ∀ q, q < 87 → X.1 q = s.heap.size + q := fun q hq => if_pos hq
  have hA : ∀ a : Nat, a < s.heap.size → ¬ pm_Ad X a := by
    intro a ha hq
    obtain ⟨q, h1, h2⟩ := hq
    rw [hX0 q h1] at h2
    omega
  have hK : va_K X.2.1 vwCl (pm_tys X) s := by
    refine ⟨fun k q hq => hg k q hq, fun k q hq => ?_⟩
    have hk : k < 5 := (List.getElem?_eq_some_iff.mp hq).1
    rcases (show k = 0 ∨ k = 1 ∨ k = 2 ∨ k = 3 ∨ k = 4 by omega) with rfl | rfl | rfl | rfl | rfl <;> cases hq
    · exact ⟨hi1, hi2⟩
    · exact ⟨hz1, hz2⟩
    · exact ⟨h51, h52⟩
    · exact ⟨h11, h12⟩
    · exact ⟨h01, h02⟩
  have hT87 : va_T .int (X.1 87) 6 (fun j => .int (pm_let j)) (pm_Ad X) s s.heap := by
    obtain ⟨t', e1, e2⟩ := hAll (pm_Ad X) hA
    have : t' = t := by
      have := e1.symm.trans ht0
      simpa using this
    rw [this] at e2
    exact e2
  have hZ : va_Z "HillSeer$Reader" "LETTERS" "[I" (.ref (X.1 87)) (pm_Ad X) s s.heap := va_Zof (hts _ (mem_i 429 (by decide +kernel))) (hbig _ wb_9) ht0 hA
  have hT88 : va_T .int (X.1 88) X.2.2.2.1 (fun j => .int (X.2.2.2.2 j)) (pm_Ad X) s s.heap := by
    obtain ⟨scr, q1, q2, q3, q4, q5⟩ := hX
    refine ⟨scr, q1, q2, q3, Nat.le_of_eq q4.symm, (by rw [q4]), fun j hj => ?_, hA b hbl⟩
    have hj : j < L := hj
    rw [q5 j hj]
    show some (Value.int (xs j)) = some (.int (((List.range L).map xs).getD j 0))
    rw [List.getD_eq_getElem?_getD, List.getElem?_map, List.getElem?_range hj]
    rfl
  have hU : pm_U X s s.heap := by
    refine ⟨fun w hw => ?_, hK, hZ, hT87, hT88⟩
    have hw1 := (List.mem_filter.mp hw).1
    have hw2 := (List.mem_filter.mp hw).2
    have h0 := hts w hw1
    refine va_Nw.of ?_ h0
    cases w <;> first | (simp [pm_isN] at hw2; done) | rfl
  have hscr : pm_scr X (mF ((List.range L).map xs)) := by
    refine ⟨?_, rfl⟩
    show L = ((List.range L).map xs).length
    rw [List.length_map, List.length_range]
  -- the walk
  rw [lg_entry_eq]
  have hlv := pm_ent_lv (X := X) (M := mL_law) (as := [.ref 88]) (Nat.le_of_ble_eq_true rfl)
  have hB := b_law (d := 0) (Q := exQ) ⟨rfl, rfl, rfl, rfl⟩
  refine hB X p l e room_1 s m #[Value.ref b] below meth c s.heap [] (lw_Z below #[Value.ref b] s) _ ⟨hx, hb, hr, hlocks, hml, hown, hbig, ⟨hU, ao5, ao1, ao0⟩, fun h => absurd h (by decide)⟩ ⟨by decide, by decide, by decide, by decide⟩ ⟨fun k q hq => (by cases hq), ⟨fun i j p q hp => (by cases hp), fun k q hq => (by cases hq)⟩, va_S.rf, (hX0 0 (by decide)).symm, fun q hq => (by rw [hX0 q hq, hX0 0 (by decide)]; rfl), fun _ _ _ => rfl⟩ hlv ?_
  intro H1 locs1 k1 N1 pc1 lsA ls1 hq hH1 hlv1
  obtain ⟨rfl, rfl, rfl, rfl⟩ := hq
  have hH := H_fin hH1 hscr
  have hG : pm_G 17 mL_law 16 [some (.ref 88), some (.ref 0), some (.ref 65), none] [] (mF ((List.range L).map xs)) (fun r _ => r = some (.int 1)) := by
    refine sL_law_16 (sL_law_17 ?_)
    have hl : ((mF ((List.range L).map xs)).2.1 88).length = L := by
      show ((List.range L).map xs).length = L
      rw [List.length_map, List.length_range]
    exact law_loop (d := 0) (fun _ => rfl) 70 0 S0 _ (by omega) (by omega) (by omega) (RC0 _) (RR0 _)
  refine hG X p l e room_1 s m #[Value.ref b] below meth c H1 locs1 _ _ (lw_Z below #[Value.ref b] s) ls1 ⟨hx, hb, hr, hlocks, hml, hown, hbig, hU⟩ ⟨by decide, by decide, by decide, by decide⟩ hH hlv1 ?_
  intro H2 locs2 m2 pc2 ls2 r hr2 hH2 hrt
  subst hr2
  refine va_forget (fun q hq => ?_) ?_
  · obtain ⟨k, h1, h2⟩ := hH2.2.2.1.2.2 q hq
    rw [h2, hX0 k h1]; omega
  · exact W.widen (by decide) (by decide) (lw_ret hx hb hr hlocks hrt.2)

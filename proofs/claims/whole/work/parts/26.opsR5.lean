section OPR5
variable {d : Nat} {m : pmMem} {Q : Option Value → pmMem → Prop} {S : Sg} {L : Ld} {s : Cs}
theorem c7_in0 {x : Int32} {v lo hi : Int64} {l1 l3 l5 : Option Value} {n : Nat} (hn : n < 2147483648) (hv : v.toInt = x.toInt) (hlo : lo.toInt = 0) (hhi : hi.toInt = (n : Int) - 1) (kt : ∀ r, idx n x = some r → r < n → x = nI r → Q (some (.int 1)) m) (kf : idx n x = none → Q (some (.int 0)) m) : pm_G d mX7_in 0 [some (.long v), l1, some (.long lo), l3, some (.long hi), l5] [] m Q := by
  refine c7_in (fun h1 h2 => ?_) (fun h => ?_)
  · obtain ⟨r, a, b, c⟩ := idx_some (n := n) (x := x) hn (by omega) (by omega)
    exact kt r a b c
  · exact kf (idx_none (by omega))
theorem R_asked (h : RR S m) (K : Q (some (.int (sTel S).1)) m) : pm_G d mX7_asked 0 [some (.ref 65)] [] m Q := by
  refine gX7_asked_0 ?_
  rw [h.2.2.2.2.2.2.2.1.1]; exact K
theorem R_upper (h : RR S m) (K : Q (some (.long (sTel S).2.1)) m) : pm_G d mX7_upper 0 [some (.ref 65)] [] m Q := by
  refine gX7_upper_0 ?_
  rw [h.2.2.2.2.2.2.2.1.2.1]; exact K
theorem R_lower (h : RR S m) (K : Q (some (.long (sTel S).2.2)) m) : pm_G d mX7_lower 0 [some (.ref 65)] [] m Q := by
  refine gX7_lower_0 ?_
  rw [h.2.2.2.2.2.2.2.1.2.2]; exact K
theorem R_finding (h : RR S m) (K : Q (some (.int (sFnd S).1)) m) : pm_G d mX7_finding 0 [some (.ref 65)] [] m Q := by
  refine gX7_finding_0 ?_
  rw [h.2.2.2.2.2.2.2.2.1.1]; exact K
theorem R_findings {x : Int32} (h : RR S m) (K : Q (some (.int (o_findings S x))) m) : pm_G (d + 1) mX7_findings 0 [some (.ref 65), some (.int x)] [] m Q := by
  have h8 := h.2.2.2.2.2.2.2.2.1
  refine gX7_findings_0 (c7_in (fun h1 h2 => ?_) (fun hn => ?_))
  · rw [t64, show (1 : Int64).toInt = 1 from rfl] at h1
    rw [t64, n64_5] at h2
    obtain ⟨k, hi, hk, hn⟩ := idx_some (n := 6) (x := x) (by omega) (by omega) (by omega)
    have hk0 : k ≠ 0 := by intro z; rw [hn, z] at h1; exact absurd h1 (by decide)
    simp only [o_findings, hi, if_neg hk0] at K
    refine gX7_findings_9 (fun _ => ?_) (fun z => absurd z (by decide)) (fun _ => ?_)
    · rw [hn, h8.2.1, h8.2.2]; exact ni_in hk (by omega)
    · rw [hn, ni_cl (by omega), h8.2.1]; exact K
  · rw [t64, show (1 : Int64).toInt = 1 from rfl, n64_5] at hn
    refine gX7_findings_9 (fun z => absurd rfl z) (fun _ => ?_) (fun z => absurd rfl z)
    by_cases w : x.toInt = 0
    · obtain ⟨k, hi, hk, hx⟩ := idx_some (n := 6) (x := x) (by omega) (by omega) (by omega)
      rw [hx, nI_toInt (by omega)] at w
      have hk0 : k = 0 := by omega
      simp only [o_findings, hi, if_pos hk0] at K
      exact K
    · simp only [o_findings, idx_none (n := 6) (x := x) (by omega)] at K
      exact K
theorem tellK {v : Int32} {m0 : pmMem} (h : RR S m) (b : ag (fun c => 65 ≤ c) m0 m) (K : okR (1, tell S v) m0 Q) : ∀ m1, m1 = pm_setF m 65 19 v → Q (some (.int 1)) m1 := by
  intro m1 e1
  rw [e1]
  exact K _ (RR_tell h) (ag_trans b (ag_F (ag_refl _ _) (by omega)))
theorem R_hill {x w : Int32} (h : RR S m) (K : okR (o_hill S x w) m Q) : pm_G (d + 5) mX7_hill 0 [some (.ref 65), some (.int x), some (.int w)] [] m Q := by
  have hL := h.2.2.1
  have hL6 := hL.2.1
  refine gX7_hill_0 (c7_isHill hL (fun r hi hr hx => ?_) (fun hi => ?_))
  · simp only [o_hill, hi] at K
    refine gX7_hill_5 (fun z => absurd z (by decide)) (fun _ => c7_in0 (n := 6) (by omega) (t64 w) rfl rfl (fun k hi2 hk hw => ?_) (fun hi2 => ?_))
    · simp only [hi2] at K
      refine gX7_hill_17 (fun _ => c7_asideS h (fun m' h' hG hA hb => gX7_hill_26 ?_)) (fun z => absurd z (by decide))
      have g := h'.2.2.1
      have g2 := g.2.2.2.2.2 r hr
      rw [hx, hw]
      have ks : k = 0 ∨ k = 1 ∨ k = 2 ∨ k = 3 ∨ k = 4 ∨ k = 5 := by omega
      rcases ks with e | e | e | e | e | e <;> subst e
      · refine gX7_hill_27_0 (by rw [g.2.2.1]; exact ni_in (by omega) (by omega)) ?_
        rw [ni_cl (by omega), g2.1]; exact tellK h' hb K
      · refine gX7_hill_27_1 (by rw [g.2.2.2.1]; exact ni_in (by omega) (by omega)) ?_
        rw [ni_cl (by omega), g2.2.1]; exact tellK h' hb K
      · refine gX7_hill_27_2 (by rw [g.2.2.2.2.1]; exact ni_in (by omega) (by omega)) ?_
        rw [ni_cl (by omega), g2.2.2.1]; exact tellK h' hb K
      · exact gX7_hill_27_3 (c7_seenFromS hA hr (gX7_hill_109 (tellK h' hb K)))
      · exact gX7_hill_27_4 (c7_sumFromS hA hr (gX7_hill_125 (tellK h' hb K)))
      · exact gX7_hill_27_d (by decide) (c7_wordFromS hA hr (gX7_hill_141 (tellK h' hb K)))
    · simp only [hi2] at K
      exact gX7_hill_17 (fun z => absurd rfl z) (fun _ => K m h (ag_refl _ _))
  · simp only [o_hill, hi] at K
    exact gX7_hill_5 (fun _ => K m h (ag_refl _ _)) (fun z => absurd rfl z)
theorem R_tent {x w : Int32} {l3 l4 : Option Value} (h : RR S m) (K : okR (o_tent S x w) m Q) : pm_G (d + 5) mX7_tent 0 [some (.ref 65), some (.int x), some (.int w), l3, l4] [] m Q := by
  have hL := h.2.2.1
  have hL6 := hL.2.1
  refine gX7_tent_0 (c7_in0 (n := 12) (by omega) (t64 x) rfl rfl (fun r hi hr hx => ?_) (fun hi => ?_))
  · simp only [o_tent, hi] at K
    refine gX7_tent_9 (fun z => absurd z (by decide)) (fun _ => c7_in0 (n := 3) (by omega) (t64 w) rfl rfl (fun k hi2 hk hw => ?_) (fun hi2 => ?_))
    · simp only [hi2] at K
      have e0 : (m.1 65 4 = 0) ↔ (sL S).1 = 0 := by rw [hL.1]; exact ni_eq (b := 0) (by omega) (by omega)
      refine gX7_tent_21 ?_ ?_ (fun z => absurd z (by decide)) <;> simp only [e0]
      · intro _ hz
        rw [if_neg hz] at K
        refine c7_asideS h (fun m' h' hG hA hb => gX7_tent_40 ?_)
        have g := h'.2.2.1
        have hN := h'.2.2.2.2.1
        rw [hx, hw]
        have w0 : nI k = 0 ↔ k = 0 := ni_eq (b := 0) (by omega) (by omega)
        have w1 : nI k = 1 ↔ k = 1 := ni_eq (b := 1) (by omega) (by omega)
        have loop : ∀ (n i : Nat), i + n = (sL S).1 → pm_G (d + 5) mX7_tent 45 [some (.ref 65), some (.int (nI r)), some (.int (nI k)), some (.int (nI (seeS (sL S) (sS S) r i))), some (.int (nI i))] [] m' Q := by
          intro n
          induction n with
          | zero =>
            intro i hi
            have hin : i = (sL S).1 := by omega
            subst hin
            have le : m'.1 65 4 ≤ nI (sL S).1 := by rw [g.1]; exact Int32.le_refl _
            refine gX7_tent_45 ?_ ?_ ?_ ?_ ?_ (fun z => absurd le z) <;> simp only [w0, w1]
            · intro _ _ _; rw [hN.2.1, lst_len]; exact ni_in hr (by omega)
            · intro _ _; rw [hN.1, hN.2.2.2.2.1]; exact ni_in hr (by omega)
            · intro _ z1 z2
              simp only [tentF, if_neg z1, if_neg z2] at K
              exact tellK h' hb K
            · intro _ z1 z2
              simp only [tentF, if_neg z1, if_pos z2] at K
              rw [ni_cl (by omega), hN.2.1, lst_get hr]
              exact tellK h' hb K
            · intro _ z1
              simp only [tentF, if_pos z1] at K
              rw [ni_cl (by omega), hN.1]
              exact tellK h' hb K
          | succ n ih =>
            intro i hi
            have n1 : ¬ m'.1 65 4 ≤ nI i := by
              rw [g.1]
              intro z
              have := (ni_le (by omega) (by omega)).mp z
              omega
            have nx := ih (i + 1) (by omega)
            refine gX7_tent_45 (fun z => absurd z n1) (fun z => absurd z n1) (fun z => absurd z n1) (fun z => absurd z n1) (fun z => absurd z n1) (fun _ => c7_seenFromS hA (by omega) (gX7_tent_65 (c7_has (seenC_lt _ _ _) hr ?_)))
            have lt : seeS (sL S) (sS S) r i < 2 ^ i := mkS_lt _ i
            cases hb : (seenC (sL S) (sS S) i).testBit r with
            | false =>
              refine gX7_tent_69 (fun _ => ?_) (fun z => absurd rfl z)
              rw [nI_1]
              simp only [seeS, mkS, hb] at nx
              simpa [seeS] using nx
            | true =>
              refine gX7_tent_69 (fun z => absurd z (by decide)) (fun _ => ?_)
              rw [nI_1, ni_shl i (by omega), ni_or, or_add lt]
              simp only [seeS, mkS, hb] at nx
              simpa [seeS] using nx
        exact loop (sL S).1 0 (by omega)
      · intro _ hz
        rw [if_pos hz] at K
        exact K m h (ag_refl _ _)
    · simp only [hi2] at K
      exact gX7_tent_21 (fun z => absurd rfl z) (fun z => absurd rfl z) (fun _ => K m h (ag_refl _ _))
  · simp only [o_tent, hi] at K
    exact gX7_tent_9 (fun _ => K m h (ag_refl _ _)) (fun z => absurd rfl z)
theorem take_set {l : List Int32} {n : Nat} {v : Int32} (h : n < l.length) : (l.set n v).take (n + 1) = l.take n ++ [v] := by
  rw [List.take_succ, List.take_set_of_le (Nat.le_refl _), List.getElem?_set_self h]; rfl
theorem c7_doItS {c : Nat} {x : Int32} (h : RR S m) (hx : x = nI (encR c)) (h40 : (sD S).length < 40) (hc : okDeed (sL S) c) (h0 : (sL S).1 ≠ 0) (K : ∀ m', RR (setD S (sD S ++ [c])) m' → atR (sL S) (sS (setD S (sD S ++ [c]))) m' → ag (fun c => 65 ≤ c) m m' → Q none m') : pm_G (d + 6) mX7_doIt 0 [some (.ref 65), some (.int x)] [] m Q := by
  have hC := h.2.2.2.1
  have h10 := h.2.2.2.2.2.2.2.2.2
  refine gX7_doIt_0 (by rw [hC.2.2.1, hC.2.2.2.2.1]; exact ni_in h40 (by omega)) (fun m1 e1 m2 e2 => ?_)
  rw [hC.2.2.1, ni_cl (by omega)] at e1
  have f1 : m1.1 = m.1 := by rw [e1]; rfl
  rw [f1, hC.2.2.1, nI_1] at e2
  have a2 : agR (fun c => c = 74) (fun k => k = 10) (fun _ => False) m m2 := by rw [e2, e1]; exact agR_F (agR_A (agR_refl _ _ _ _) rfl) rfl
  have e74 : m2.2.1 74 = (m.2.1 74).set (sD S).length x := by rw [e2]; show m1.2.1 74 = _; rw [e1, pm_rA, if_pos rfl]
  refine c7_goS h a2 (ds := sD S ++ [c]) ⟨?_, hC.2.1, ?_, ?_, ?_, ?_⟩ (sOk_snoc h10 hc) (fun z => absurd z h0) (fun m' a b c e => gX7_doIt_24 (K m' a c e))
  · rw [a2.2.1 73 (by omega)]; exact hC.1
  · rw [e2, pm_rF, if_pos ⟨rfl, rfl⟩, List.length_append]; rfl
  · rw [List.length_append]; show (sD S).length + 1 ≤ 40; omega
  · rw [e74, List.length_set]; exact hC.2.2.2.2.1
  · rw [e74, List.length_append]
    show ((m.2.1 74).set (sD S).length x).take ((sD S).length + 1) = _
    rw [take_set (by rw [hC.2.2.2.2.1]; exact h40), hC.2.2.2.2.2, List.map_append, hx]
    rfl
theorem e40 {n : Nat} (hn : n ≤ 40) : (nI n = 40) ↔ n = 40 := ni_eq (b := 40) (by omega) (by omega)
theorem R_speak {x : Int32} {l2 : Option Value} (h : RR S m) (K : okR (o_speak S x) m Q) : pm_G (d + 7) mX7_speak 0 [some (.ref 65), some (.int x), l2] [] m Q := by
  have hL := h.2.2.1
  have hL6 := hL.2.1
  have hC := h.2.2.2.1
  have h40 := hC.2.2.2.1
  refine gX7_speak_0 (c7_isHill hL (fun r hi hr hx => ?_) (fun hi => ?_))
  · simp only [o_speak, hi] at K
    have e : (m.1 65 10 = 40) ↔ (sD S).length = 40 := by rw [hC.2.2.1]; exact e40 h40
    refine gX7_speak_5 ?_ ?_ (fun z => absurd z (by decide)) <;> simp only [e]
    · intro _ z
      rw [if_neg (by omega)] at K
      rw [hx]
      refine c7_asideS h (fun m' h' hG hA hb => gX7_speak_26 (c7_wordFromS hA hr (gX7_speak_35 ?_)))
      refine c7_doItS (c := 100 + r) h' (by unfold encR; rw [if_pos (by omega), Nat.add_sub_cancel_left]) (by omega) (Or.inr (Or.inl ⟨by omega, by omega⟩)) (by omega) (fun m2 a b c => gX7_speak_41 (K m2 a (ag_trans hb c)))
    · intro _ z
      rw [if_pos (by omega)] at K
      exact K m h (ag_refl _ _)
  · simp only [o_speak, hi] at K
    exact gX7_speak_5 (fun z => absurd rfl z) (fun z => absurd rfl z) (fun _ => K m h (ag_refl _ _))
theorem R_day (h : RR S m) (K : okR (o_day S) m Q) : pm_G (d + 7) mX7_day 0 [some (.ref 65)] [] m Q := by
  have hL := h.2.2.1
  have hL6 := hL.2.1
  have hC := h.2.2.2.1
  have h40 := hC.2.2.2.1
  have e : (m.1 65 10 = 40) ↔ (sD S).length = 40 := by rw [hC.2.2.1]; exact e40 h40
  have e0 : (m.1 65 4 = 0) ↔ (sL S).1 = 0 := by rw [hL.1]; exact ni_eq (b := 0) (by omega) (by omega)
  unfold o_day at K
  refine gX7_day_0 ?_ ?_ ?_ <;> simp only [e, e0]
  · intro hz z
    rw [if_neg hz, if_neg (by omega)] at K
    refine c7_doItS (c := 0) h rfl (by omega) (Or.inl (by omega)) hz (fun m' a b c => gX7_day_28 ?_)
    have q := a.2.2.2.2.1.2.2.1
    rw [q]
    have e2 : (sS (setD S (sD S ++ [0]))).2.1 = (sS S).2.1 + 1 := by
      show (replay (sL S) (sP S) (sD S ++ [0])).2.1 = _
      rw [replay_snoc]; rfl
    rw [e2]
    exact K m' a c
  · intro hz z
    rw [if_neg hz, if_pos (by omega)] at K
    exact K m h (ag_refl _ _)
  · intro hz
    rw [if_pos hz] at K
    exact K m h (ag_refl _ _)
theorem R_change {x y : Int32} (h : RR S m) (K : okR (o_change S x y) m Q) : pm_G (d + 7) mX7_change 0 [some (.ref 65), some (.int x), some (.int y)] [] m Q := by
  have hL := h.2.2.1
  have hL6 := hL.2.1
  have hC := h.2.2.2.1
  have h40 := hC.2.2.2.1
  have e : (m.1 65 10 = 40) ↔ (sD S).length = 40 := by rw [hC.2.2.1]; exact e40 h40
  have e0 : (m.1 65 4 = 0) ↔ (sL S).1 = 0 := by rw [hL.1]; exact ni_eq (b := 0) (by omega) (by omega)
  refine gX7_change_0 (c7_in0 (n := 12) (by omega) (t64 x) rfl rfl (fun i hi hr hx => ?_) (fun hi => ?_))
  · simp only [o_change, hi] at K
    refine gX7_change_9 (fun z => absurd z (by decide)) (fun _ => c7_in0 (n := 12) (by omega) (t64 y) rfl rfl (fun j hi2 hr2 hy => ?_) (fun hi2 => ?_))
    · simp only [hi2] at K
      have exy : (x = y) ↔ i = j := by rw [hx, hy]; exact ni_eq (by omega) (by omega)
      refine gX7_change_21 (fun z => absurd z (by decide)) ?_ ?_ ?_ ?_ <;> simp only [exy, e, e0]
      · intro _ hij hz z
        rw [if_neg hij, if_neg hz, if_neg (by omega)] at K
        refine c7_doItS (c := 200 + 12 * i + j) h ?_ (by omega) (Or.inr (Or.inr ⟨by omega, by omega⟩)) hz (fun m' a b c => gX7_change_66 (c7_blessing b (gX7_change_70 (K m' a c))))
        unfold encR
        rw [if_pos (by omega), hx, hy, show (12 : Int32) = nI 12 from rfl, pk_mul, show (100 : Int32) = nI 100 from rfl, nI_add, nI_add]
        exact congrArg nI (by omega)
      · intro _ hij hz z
        rw [if_neg hij, if_neg hz, if_pos (by omega)] at K
        exact K m h (ag_refl _ _)
      · intro _ hij hz
        rw [if_neg hij, if_pos hz] at K
        exact K m h (ag_refl _ _)
      · intro _ hij
        rw [if_pos hij] at K
        exact K m h (ag_refl _ _)
    · simp only [hi2] at K
      exact gX7_change_21 (fun _ => K m h (ag_refl _ _)) (fun z => absurd rfl z) (fun z => absurd rfl z) (fun z => absurd rfl z) (fun z => absurd rfl z)
  · simp only [o_change, hi] at K
    exact gX7_change_9 (fun _ => K m h (ag_refl _ _)) (fun z => absurd rfl z)
theorem R_undo {x : Int32} {l2 : Option Value} (h : RR S m) (K : okR (o_undo S x) m Q) : pm_G (d + 7) mX7_undo 0 [some (.ref 65), some (.int x), l2] [] m Q := by
  have hC := h.2.2.2.1
  have h40 := hC.2.2.2.1
  have h10 := h.2.2.2.2.2.2.2.2.2
  refine gX7_undo_0 (c7_in0 (n := (sD S).length + 1) (by omega) (t64 x) rfl ?_ (fun n hi hr hx => ?_) (fun hi => ?_))
  · rw [hC.2.2.1, t64, nI_toInt (by omega)]; omega
  · simp only [o_undo, hi] at K
    refine gX7_undo_11 (fun _ m1 e1 => ?_) (fun z => absurd z (by decide))
    have a1 : agR (fun c => c = 74) (fun k => k = 10) (fun _ => False) m m1 := by rw [e1]; exact agR_F (agR_refl _ _ _ _) rfl
    rw [hC.2.2.1, hx, nI_sub (by omega)]
    have lt : ((sD S).take n).length = n := by rw [List.length_take]; omega
    refine c7_goS h a1 (ds := (sD S).take n) ⟨?_, hC.2.1, ?_, ?_, ?_, ?_⟩ (fun x hx => h10.1 x (List.mem_of_mem_take hx)) (fun z => by rw [(h10.2.2 z).1]; exact List.take_nil) (fun m' a b c e => gX7_undo_32 (K m' a e))
    · rw [a1.2.1 73 (by omega)]; exact hC.1
    · rw [e1, pm_rF, if_pos ⟨rfl, rfl⟩, lt]; exact hx
    · omega
    · rw [e1]; exact hC.2.2.2.2.1
    · rw [e1, lt]
      show (m.2.1 74).take n = _
      rw [List.map_take, ← hC.2.2.2.2.2, List.take_take]
      congr 1; omega
  · simp only [o_undo, hi] at K
    exact gX7_undo_11 (fun z => absurd rfl z) (fun _ => K m h (ag_refl _ _))
theorem R_only {x y : Int32} {l3 : Option Value} (h : RR S m) (K : okR (o_only S x y) m Q) : pm_G (d + 5) mX7_only 0 [some (.ref 65), some (.int x), some (.int y), l3] [] m Q := by
  have hL := h.2.2.1
  have hL6 := hL.2.1
  refine gX7_only_0 (c7_isHill hL (fun i hi hr hx => ?_) (fun hi => ?_))
  · simp only [o_only, hi] at K
    refine gX7_only_5 (fun z => absurd z (by decide)) (fun _ => c7_isHill hL (fun j hi2 hr2 hy => ?_) (fun hi2 => ?_))
    · simp only [hi2] at K
      have exy : (x = y) ↔ i = j := by rw [hx, hy]; exact ni_eq (by omega) (by omega)
      refine gX7_only_13 (fun z => absurd z (by decide)) ?_ ?_ <;> simp only [exy]
      · intro _ hij
        rw [if_neg hij] at K
        rw [hx, hy]
        refine c7_asideS h (fun m' h' hG hA hb => gX7_only_27 (c7_seenFromS hA hr (gX7_only_36 (c7_seenFromS hA hr2 (gX7_only_45 ?_)))))
        rw [ni_andn]
        refine c7_ones (dif_lt (seenS_lt _ _ _ _ _)) (gX7_only_54 (fun m1 e1 => ?_))
        rw [e1]
        exact K _ (RR_tell h') (ag_trans hb (ag_F (ag_refl _ _) (by omega)))
      · intro _ hij
        rw [if_pos hij] at K
        exact K m h (ag_refl _ _)
    · simp only [hi2] at K
      exact gX7_only_13 (fun _ => K m h (ag_refl _ _)) (fun z => absurd rfl z) (fun z => absurd rfl z)
  · simp only [o_only, hi] at K
    exact gX7_only_5 (fun _ => K m h (ag_refl _ _)) (fun z => absurd rfl z)
theorem anyS_all {t u n : Nat} (h : ∀ i, i < n → t.testBit i = u.testBit i) : anyS L s t n = anyS L s u n := by
  induction n with
  | zero => rfl
  | succ n ih => simp only [anyS, ih (fun i hi => h i (by omega)), h n (by omega)]
theorem bit63 : ∀ n, n ≤ 6 → ∀ i, i < n → (63 : Nat).testBit i = (2 ^ n - 1).testBit i := by decide +kernel
theorem R_hidden (h : RR S m) (K : okR (o_hidden S) m Q) : pm_G (d + 5) mX7_hidden 0 [some (.ref 65)] [] m Q := by
  have hL := h.2.2.1
  have hL6 := hL.2.1
  have e0 : (m.1 65 4 = 0) ↔ (sL S).1 = 0 := by rw [hL.1]; exact ni_eq (b := 0) (by omega) (by omega)
  unfold o_hidden at K
  refine gX7_hidden_0 ?_ ?_ <;> simp only [e0]
  · intro hz
    rw [if_neg hz] at K
    refine c7_asideS h (fun m' h' hG hA hb => gX7_hidden_14 (c7_seenFromAny (t := 63) hA (by omega) (gX7_hidden_23 ?_)))
    rw [show (4095 : Int32) = nI 4095 from rfl, ni_andn, anyS_all (bit63 _ hL6)]
    exact K m' h' hb
  · intro hz
    rw [if_pos hz] at K
    exact K m h (ag_refl _ _)
end OPR5

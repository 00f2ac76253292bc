def scr4 (c : Nat) : Prop := c = 79 ∨ c = 80 ∨ c = 85 ∨ c = 86
def len4 (m : pmMem) : Prop := (m.2.1 79).length = 12 ∧ (m.2.1 80).length = 12 ∧ (m.2.1 85).length = 12 ∧ (m.2.1 86).length = 12
theorem asideG_len {g : List Int32} {mk : Nat → Nat} {m : pmMem} (h : asideG g mk m) : (m.2.1 79).length = 12 ∧ (m.2.1 80).length = 12 := ⟨by rw [h.1]; exact h.2.1, by rw [h.2.2.1, lst_len]⟩
theorem heldG_len {g : List Int32} {mk : Nat → Nat} {m : pmMem} (h : heldG g mk m) : (m.2.1 85).length = 12 ∧ (m.2.1 86).length = 12 := ⟨by rw [h.1]; exact h.2.1, by rw [h.2.2.1, lst_len]⟩
theorem heldG_scr {g : List Int32} {mk : Nat → Nat} {m m' : pmMem} (h : heldG g mk m) (ha : agA scrR m m') : heldG g mk m' := ⟨by rw [ha.2.2 85 (by unfold scrR; omega)]; exact h.1, h.2.1, by rw [ha.2.2 86 (by unfold scrR; omega)]; exact h.2.2.1, h.2.2.2⟩
theorem RR_scr4 {S : Sg} {m m' : pmMem} (h : RR S m) (ha : agA scr4 m m') (hl : len4 m') : RR S m' := by
  refine RR_scr h ha (fun c z => by unfold scr4 at z; omega) ⟨hl.1, hl.2.1, ?_, ?_, ?_, hl.2.2.1, hl.2.2.2⟩
  · rw [ha.2.2 82 (by unfold scr4; omega)]; exact h.2.2.2.2.2.2.1.2.2.1
  · rw [ha.2.2 83 (by unfold scr4; omega)]; exact h.2.2.2.2.2.2.1.2.2.2.1
  · rw [ha.2.2 84 (by unfold scr4; omega)]; exact h.2.2.2.2.2.2.1.2.2.2.2.1
theorem scrR_4 {m m' : pmMem} (h : agA scrR m m') : agA scr4 m m' := agA_mono (fun c z => by unfold scrR at z; unfold scr4; omega) h
theorem heS_4 {m m' : pmMem} (h : agA heS m m') : agA scr4 m m' := agA_mono (fun c z => by unfold heS at z; unfold scr4; omega) h
theorem landR_4 {L : Ld} {m m' : pmMem} (h : landR L m) (ha : agA scr4 m m') : landR L m' :=
  landR_ag h ha.ag (by rw [ha.1]) (fun c _ _ z => by unfold scr4 at z; omega)
def mostI (f : Nat → Nat) (i : Nat) : Int32 := if i = 0 then -1 else nI (maxN f i)
theorem mostI_le {f : Nat → Nat} {i : Nat} (h : ∀ i, f i ≤ 13) (z : nI (f i) ≤ mostI f i) : mostI f i = mostI f (i + 1) := by
  have f1 := h i
  have f2 := maxN_le h i
  unfold mostI at z ⊢
  by_cases e : i = 0
  · rw [if_pos e] at z
    rw [Int32.le_iff_toInt_le, nI_toInt (by omega)] at z
    have : ((f i : Nat) : Int) ≤ -1 := z
    omega
  · rw [if_neg e] at z
    rw [if_neg e, if_neg (by omega)]
    have := (ni_le (by omega) (by omega)).mp z
    simp only [maxN]
    rw [Nat.max_eq_left this]
theorem mostI_gt {f : Nat → Nat} {i : Nat} (h : ∀ i, f i ≤ 13) (z : ¬ nI (f i) ≤ mostI f i) : nI (f i) = mostI f (i + 1) := by
  have f1 := h i
  have f2 := maxN_le h i
  unfold mostI at z ⊢
  rw [if_neg (show ¬ i + 1 = 0 by omega)]
  simp only [maxN]
  by_cases e : i = 0
  · subst e
    simp [maxN]
  · rw [if_neg e] at z
    have : ¬ f i ≤ maxN f i := fun w => z ((ni_le (by omega) (by omega)).mpr w)
    rw [Nat.max_eq_right (by omega)]
theorem minN_a {f : Nat → Nat} {c : Nat} (h : f c ≤ 13) (z : nI (minN f c) ≤ nI (f c)) : minN f c = minN f (c + 1) := by
  have := minN_le f c
  have := (ni_le (by omega) (by omega)).mp z
  simp only [minN]
  omega
theorem minN_b {f : Nat → Nat} {c : Nat} (h : f c ≤ 13) (z : ¬ nI (minN f c) ≤ nI (f c)) : f c = minN f (c + 1) := by
  have := minN_le f c
  have : ¬ minN f c ≤ f c := fun w => z ((ni_le (by omega) (by omega)).mpr w)
  simp only [minN]
  omega
section KINGR
variable {d : Nat} {m : pmMem} {Q : Option Value → pmMem → Prop} {S : Sg} {L : Ld} {s : Cs}
theorem c7_lastTurn {l1 l2 l3 l4 l5 : Option Value} (hL : landR L m) (h15 : m.1 65 15 = nI s.2.1) (ok : csOk s) (hdj : dj s) (hH : heldG s.1 (fateC s) m) (hl : len4 m) (h0 : L.1 ≠ 0) (K : ∀ m', agA scrR m m' → len4 m' → Q (some (.int (nI (kL L 1 s)))) m') : pm_G (d + 5) mX7_lastTurn 0 [some (.ref 65), l1, l2, l3, l4, l5] [] m Q := by
  have hL6 := hL.2.1
  have hd : s.2.1 < 1000 := by have := ok.2.1; omega
  have fle : ∀ c i, (fun h => kL L 0 (sayC L (swn s c) h)) i ≤ 13 := fun c i => kL_le L 0 _
  have Fle : ∀ c, (fun c => maxN (fun h => kL L 0 (sayC L (swn s c) h)) L.1) c ≤ 13 := fun c => maxN_le (fle c) _
  have inner : ∀ (k i c : Nat) (m1 : pmMem) (l5 : Option Value), i + k = L.1 → c < 12 → agA scrR m m1 → len4 m1 → (∀ (m2 : pmMem) (l3 l4 l5 : Option Value), agA scrR m m2 → len4 m2 → pm_G (d + 5) mX7_lastTurn 5 [some (.ref 65), some (.int (nI (minN (fun c => maxN (fun h => kL L 0 (sayC L (swn s c) h)) L.1) (c + 1)))), some (.int (nI (c + 1))), l3, l4, l5] [] m2 Q) → pm_G (d + 5) mX7_lastTurn 16 [some (.ref 65), some (.int (nI (minN (fun c => maxN (fun h => kL L 0 (sayC L (swn s c) h)) L.1) c))), some (.int (nI c)), some (.int (mostI (fun h => kL L 0 (sayC L (swn s c) h)) i)), some (.int (nI i)), l5] [] m1 Q := by
    intro k
    induction k with
    | zero =>
      intro i c m1 l5 hi hc ha hl1 K1
      have e : i = L.1 := by omega
      subst e
      have hL1 := landR_scr hL ha
      have le : m1.1 65 4 ≤ nI L.1 := by rw [hL1.1]; exact Int32.le_refl _
      have em : mostI (fun h => kL L 0 (sayC L (swn s c) h)) L.1 = nI ((fun c => maxN (fun h => kL L 0 (sayC L (swn s c) h)) L.1) c) := by unfold mostI; rw [if_neg h0]
      rw [em]
      refine gX7_lastTurn_16 (fun _ z => ?_) (fun _ z => ?_) (fun z => absurd le z)
      · rw [minN_a (f := fun c => maxN (fun h => kL L 0 (sayC L (swn s c) h)) L.1) (Fle c) z, nI_1]
        exact K1 m1 _ _ _ ha hl1
      · have := minN_b (f := fun c => maxN (fun h => kL L 0 (sayC L (swn s c) h)) L.1) (Fle c) z
        have nx := fun l3 l4 l5 => K1 m1 l3 l4 l5 ha hl1
        rw [← this] at nx
        rw [nI_1]
        exact nx _ _ _
    | succ k ih =>
      intro i c m1 l5 hi hc ha hl1 K1
      have hL1 := landR_scr hL ha
      have nle : ¬ m1.1 65 4 ≤ nI i := by
        rw [hL1.1]; intro z
        have := (ni_le (by omega) (by omega)).mp z
        omega
      have hH1 := heldG_scr hH ha
      refine gX7_lastTurn_16 (fun z => absurd z nle) (fun z => absurd z nle) (fun _ => c7_held hH1.1 hH1.2.1 hH1.2.2.1 hH1.2.2.2 hl1.1 hl1.2.1 (fun m2 hG2 ha2 => ?_))
      have go : ∀ m3, agA scrR m m3 → asideG (swn s c).1 (fateC (swn s c)) m3 → pm_G (d + 4) mX7_wordFrom 0 [some (.ref 65), some (.int (nI i)), some (.int (m3.1 65 15))] [] m3 (fun r' m' => pm_G (d + 5) mX7_lastTurn 58 [some (.ref 65), some (.int (nI (minN (fun c => maxN (fun h => kL L 0 (sayC L (swn s c) h)) L.1) c))), some (.int (nI c)), some (.int (mostI (fun h => kL L 0 (sayC L (swn s c) h)) i)), some (.int (nI i)), l5] (pm_psh r' [.int (m3.1 65 15), .int (nI i), .ref 65]) m' Q) := by
        intro m3 ha3 hG3
        have hL3 := landR_scr hL ha3
        have f15 : m3.1 65 15 = nI (swn s c).2.1 := by rw [ha3.1, swn_day]; exact h15
        have hd' : (swn s c).2.1 < 1000 := by rw [swn_day]; exact hd
        have w3 : wordC L (swn s c) i < 3 := wordI_lt _
        rw [f15]
        refine c7_wordFrom hL3 hG3.1 hG3.2.1 (by omega) hd' ?_
        refine gX7_lastTurn_58 (c7_say hL3 hG3 (by omega) hd' w3 (fun m4 hG4 ha4 => gX7_lastTurn_61 ?_))
        have hG5 : asideG (swn s c).1 (fateC (sayC L (swn s c) i)) m4 := by
          rw [← sayK_fate]; exact hG4
        refine c7_cursedAside hG5 (gX7_lastTurn_65 ?_)
        have ok4 : csOk (sayC L (swn s c) i) := sayC_ok (swn_ok ok hc)
        rw [show curS (fateC (sayC L (swn s c) i)) = (sayC L (swn s c) i).2.2.2.2 from dj_fate (dj_say (swn_dj hdj)) ok4.2.2.2]
        refine c7_ones ok4.2.2.2 ?_
        rw [show cnt (sayC L (swn s c) i).2.2.2.2 = (fun h => kL L 0 (sayC L (swn s c) h)) i from rfl]
        have ha5 := agA_trans ha3 ha4
        have hl5 : len4 m4 := ⟨(asideG_len hG4).1, (asideG_len hG4).2, (heldG_len (heldG_scr hH ha5)).1, (heldG_len (heldG_scr hH ha5)).2⟩
        refine gX7_lastTurn_68 (fun z => ?_) (fun z => ?_)
        · rw [mostI_le (fle c) z, nI_1]
          exact ih (i + 1) c m4 _ (by omega) hc ha5 hl5 K1
        · have nx := ih (i + 1) c m4 (some (.int (nI ((fun h => kL L 0 (sayC L (swn s c) h)) i)))) (by omega) hc ha5 hl5 K1
          rw [← mostI_gt (fle c) z] at nx
          rw [nI_1]
          exact nx
      have c0 : (nI c ≤ 0) ↔ c = 0 := by
        rw [show (0 : Int32) = nI 0 from rfl, ni_le (by omega) (by omega)]; omega
      refine gX7_lastTurn_29 ?_ ?_ <;> rw [c0]
      · intro z
        refine go m2 (agA_trans ha ha2) ?_
        rw [show swn s c = s by unfold swn; rw [if_pos z]]
        exact hG2
      · intro z
        rw [show nI c - 1 = nI (c - 1) by rw [show (1 : Int32) = nI 1 from rfl, nI_sub (by omega)]]
        refine c7_exchange hG2 (by omega) (by omega) (fun m3 hG3 ha3 => gX7_lastTurn_41 (go m3 (agA_trans ha (agA_trans ha2 ha3)) ?_))
        rw [show swn s c = swapC s (c - 1) c by unfold swn; rw [if_neg z], ← swK_fate]
        exact hG3
  have outer : ∀ (k c : Nat) (m1 : pmMem) (l3 l4 l5 : Option Value), c + k = 12 → agA scrR m m1 → len4 m1 → pm_G (d + 5) mX7_lastTurn 5 [some (.ref 65), some (.int (nI (minN (fun c => maxN (fun h => kL L 0 (sayC L (swn s c) h)) L.1) c))), some (.int (nI c)), l3, l4, l5] [] m1 Q := by
    intro k
    induction k with
    | zero =>
      intro c m1 l3 l4 l5 hc ha hl1
      have e : c = 12 := by omega
      subst e
      exact gX7_lastTurn_5 (fun _ => K m1 ha hl1) (fun z => absurd (by decide) z)
    | succ k ih =>
      intro c m1 l3 l4 l5 hc ha hl1
      exact gX7_lastTurn_5 (fun z => absurd z (n12 (by omega))) (fun _ => inner L.1 0 c m1 l5 (by omega) (by omega) ha hl1 (fun m2 l3 l4 l5 a2 b2 => ih (c + 1) m2 l3 l4 l5 (by omega) a2 b2))
  exact gX7_lastTurn_0 (outer 12 0 m _ _ _ (by omega) (agA_refl _ _) hl)
theorem R_king {x : Int32} {l2 l3 l4 l5 l6 : Option Value} (h : RR S m) (K : okR (o_king S x) m Q) : pm_G (d + 7) mX7_king 0 [some (.ref 65), some (.int x), l2, l3, l4, l5, l6] [] m Q := by
  have hL := h.2.2.1
  have hL6 := hL.2.1
  have e0 : (m.1 65 4 = 0) ↔ (sL S).1 = 0 := by rw [hL.1]; exact ni_eq (b := 0) (by omega) (by omega)
  have d0 : dj (sS S) := dj_replay _ _ _
  have ok : csOk (sS S) := h.2.2.2.2.1.2.2.2.2
  have hd : (sS S).2.1 < 1000 := by have := ok.2.1; omega
  refine gX7_king_0 (c7_in0 (n := 3) (by omega) (t64 x) rfl rfl (fun n i1 i2 i3 => ?_) (fun i1 => ?_))
  · simp only [o_king, i1] at K
    refine gX7_king_9 ?_ ?_ (fun z => absurd z (by decide)) <;> rw [e0]
    · intro _ hz
      rw [if_neg hz] at K
      refine c7_asideS h (fun m1 h1 hG1 hA1 hb1 => gX7_king_28 ?_)
      have s1 := h1.2.2.2.2.2.2.1
      refine c7_hold hG1.1 hG1.2.1 hG1.2.2.1 hG1.2.2.2 s1.2.2.2.2.2.1 s1.2.2.2.2.2.2 (fun m2 hH2 ha2 => ?_)
      have hG2 : asideG (sS S).1 (fateC (sS S)) m2 := ⟨by rw [ha2.2.2 79 (by unfold heS; omega)]; exact hG1.1, hG1.2.1, by rw [ha2.2.2 80 (by unfold heS; omega)]; exact hG1.2.2.1, hG1.2.2.2⟩
      have l2' : len4 m2 := ⟨(asideG_len hG2).1, (asideG_len hG2).2, (heldG_len hH2).1, (heldG_len hH2).2⟩
      have a2 : agA scr4 m1 m2 := heS_4 ha2
      have f15 : ∀ m3, agA scr4 m1 m3 → m3.1 65 15 = nI (sS S).2.1 := fun m3 ha => by rw [ha.1]; exact h1.2.2.2.2.1.2.2.1
      have fin : ∀ m3, agA scr4 m1 m3 → len4 m3 → Q (some (.int (nI (kL (sL S) n (sS S))))) m3 := fun m3 ha hl => K m3 (RR_scr4 h1 ha hl) (ag_trans hb1 (ag_mono (fun c z => by unfold scr4 at z; omega) ha.ag))
      rw [i3]
      have n2 : ((2 : Int32) ≤ nI n) ↔ 2 ≤ n := ni_le (a := 2) (by omega) (by omega)
      have n0 : (nI n = 0) ↔ n = 0 := ni_eq (b := 0) (by omega) (by omega)
      refine gX7_king_32 ?_ ?_ ?_ <;> simp only [n2, n0]
      · intro z
        have e : n = 2 := by omega
        subst e
        have fle : ∀ c i, (fun h => kL (sL S) 1 (sayC (sL S) (swn (sS S) c) h)) i ≤ 13 := fun c i => kL_le (sL S) 1 _
        have Fle : ∀ c, (fun c => maxN (fun h => kL (sL S) 1 (sayC (sL S) (swn (sS S) c) h)) (sL S).1) c ≤ 13 := fun c => maxN_le (fle c) _
        have inner : ∀ (k i c : Nat) (m3 : pmMem) (l6 : Option Value), i + k = (sL S).1 → c < 12 → agA scr4 m1 m3 → len4 m3 → (∀ (m4 : pmMem) (l4 l5 l6 : Option Value), agA scr4 m1 m4 → len4 m4 → pm_G (d + 7) mX7_king 61 [some (.ref 65), some (.int (nI 2)), some (.int (nI (minN (fun c => maxN (fun h => kL (sL S) 1 (sayC (sL S) (swn (sS S) c) h)) (sL S).1) (c + 1)))), some (.int (nI (c + 1))), l4, l5, l6] [] m4 Q) → pm_G (d + 7) mX7_king 73 [some (.ref 65), some (.int (nI 2)), some (.int (nI (minN (fun c => maxN (fun h => kL (sL S) 1 (sayC (sL S) (swn (sS S) c) h)) (sL S).1) c))), some (.int (nI c)), some (.int (mostI (fun h => kL (sL S) 1 (sayC (sL S) (swn (sS S) c) h)) i)), some (.int (nI i)), l6] [] m3 Q := by
          intro k
          induction k with
          | zero =>
            intro i c m3 l6 hi hc ha hl1 K1
            have e : i = (sL S).1 := by omega
            subst e
            have hL3 := landR_4 h1.2.2.1 ha
            have le : m3.1 65 4 ≤ nI (sL S).1 := by rw [hL3.1]; exact Int32.le_refl _
            have em : mostI (fun h => kL (sL S) 1 (sayC (sL S) (swn (sS S) c) h)) (sL S).1 = nI ((fun c => maxN (fun h => kL (sL S) 1 (sayC (sL S) (swn (sS S) c) h)) (sL S).1) c) := by unfold mostI; rw [if_neg hz]
            rw [em]
            refine gX7_king_73 (fun _ z => ?_) (fun _ z => ?_) (fun z => absurd le z)
            · rw [minN_a (f := fun c => maxN (fun h => kL (sL S) 1 (sayC (sL S) (swn (sS S) c) h)) (sL S).1) (Fle c) z, nI_1]
              exact K1 m3 _ _ _ ha hl1
            · have := minN_b (f := fun c => maxN (fun h => kL (sL S) 1 (sayC (sL S) (swn (sS S) c) h)) (sL S).1) (Fle c) z
              have nx := fun l3 l4 l5 => K1 m3 l3 l4 l5 ha hl1
              rw [← this] at nx
              rw [nI_1]
              exact nx _ _ _
          | succ k ih =>
            intro i c m3 l6 hi hc ha hl1 K1
            have hL3 := landR_4 h1.2.2.1 ha
            have nle : ¬ m3.1 65 4 ≤ nI i := by
              rw [hL3.1]; intro z
              have := (ni_le (by omega) (by omega)).mp z
              omega
            have N3 : nowR (sS S) m3 := (RR_scr4 h1 ha hl1).2.2.2.2.1
            refine gX7_king_73 (fun z => absurd z nle) (fun z => absurd z nle) (fun _ => c7_aside N3.1 N3.2.2.2.2.1 N3.2.1 (fun i => fate_le _ i) hl1.1 hl1.2.1 (fun m4 hG4 ha4' => ?_))
            have ha4 := agA_trans ha (scrR_4 ha4')
            have go : ∀ m5, agA scr4 m1 m5 → (m5.2.1 85).length = 12 → (m5.2.1 86).length = 12 → asideG (swn (sS S) c).1 (fateC (swn (sS S) c)) m5 → pm_G (d + 6) mX7_wordFrom 0 [some (.ref 65), some (.int (nI i)), some (.int (m5.1 65 15))] [] m5 (fun r' m' => pm_G (d + 7) mX7_king 115 [some (.ref 65), some (.int (nI 2)), some (.int (nI (minN (fun c => maxN (fun h => kL (sL S) 1 (sayC (sL S) (swn (sS S) c) h)) (sL S).1) c))), some (.int (nI c)), some (.int (mostI (fun h => kL (sL S) 1 (sayC (sL S) (swn (sS S) c) h)) i)), some (.int (nI i)), l6] (pm_psh r' [.int (m5.1 65 15), .int (nI i), .ref 65]) m' Q) := by
              intro m5 ha5 q85 q86 hG5
              have hL5 := landR_4 h1.2.2.1 ha5
              have f15' : m5.1 65 15 = nI (swn (sS S) c).2.1 := by rw [f15 m5 ha5, swn_day]
              have hd' : (swn (sS S) c).2.1 < 1000 := by rw [swn_day]; exact hd
              have w3 : wordC (sL S) (swn (sS S) c) i < 3 := wordI_lt _
              rw [f15']
              refine c7_wordFrom hL5 hG5.1 hG5.2.1 (by omega) hd' ?_
              refine gX7_king_115 (c7_say hL5 hG5 (by omega) hd' w3 (fun m6 hG6 ha6 => gX7_king_118 ?_))
              have hG6' : asideG (sayC (sL S) (swn (sS S) c) i).1 (fateC (sayC (sL S) (swn (sS S) c) i)) m6 := by
                rw [← sayK_fate]; exact hG6
              refine c7_hold hG6'.1 hG6'.2.1 hG6'.2.2.1 hG6'.2.2.2 (by rw [ha6.2.2 85 (by unfold scrR; omega)]; exact q85) (by rw [ha6.2.2 86 (by unfold scrR; omega)]; exact q86) (fun m7 hH7 ha7 => gX7_king_122 ?_)
              have ha7' : agA scr4 m1 m7 := agA_trans ha5 (agA_trans (scrR_4 ha6) (heS_4 ha7))
              have l7 : len4 m7 := ⟨by rw [ha7.2.2 79 (by unfold heS; omega)]; exact (asideG_len hG6).1, by rw [ha7.2.2 80 (by unfold heS; omega)]; exact (asideG_len hG6).2, (heldG_len hH7).1, (heldG_len hH7).2⟩
              have ok7 : csOk (sayC (sL S) (swn (sS S) c) i) := sayC_ok (swn_ok ok hc)
              refine c7_lastTurn (landR_4 h1.2.2.1 ha7') (by rw [f15 m7 ha7']; show _ = nI (swn (sS S) c).2.1; rw [swn_day]) ok7 (dj_say (swn_dj d0)) hH7 l7 hz (fun m8 ha8 l8 => ?_)
              have ha8' := agA_trans ha7' (scrR_4 ha8)
              rw [show kL (sL S) 1 (sayC (sL S) (swn (sS S) c) i) = (fun h => kL (sL S) 1 (sayC (sL S) (swn (sS S) c) h)) i from rfl]
              refine gX7_king_126 (fun z => ?_) (fun z => ?_)
              · rw [mostI_le (fle c) z, nI_1]
                exact ih (i + 1) c m8 _ (by omega) hc ha8' l8 K1
              · have nx := ih (i + 1) c m8 (some (.int (nI ((fun h => kL (sL S) 1 (sayC (sL S) (swn (sS S) c) h)) i)))) (by omega) hc ha8' l8 K1
                rw [← mostI_gt (fle c) z] at nx
                rw [nI_1]
                exact nx
            have c0 : (nI c ≤ 0) ↔ c = 0 := by
              rw [show (0 : Int32) = nI 0 from rfl, ni_le (by omega) (by omega)]; omega
            refine gX7_king_86 ?_ ?_ <;> rw [c0]
            · intro z
              refine go m4 ha4 (by rw [ha4'.2.2 85 (by unfold scrR; omega)]; exact hl1.2.2.1) (by rw [ha4'.2.2 86 (by unfold scrR; omega)]; exact hl1.2.2.2) ?_
              rw [show swn (sS S) c = sS S by unfold swn; rw [if_pos z]]
              exact hG4
            · intro z
              rw [show nI c - 1 = nI (c - 1) by rw [show (1 : Int32) = nI 1 from rfl, nI_sub (by omega)]]
              refine c7_exchange hG4 (by omega) (by omega) (fun m5 hG5 ha5 => gX7_king_98 (go m5 (agA_trans ha4 (scrR_4 ha5)) ?_ ?_ ?_))
              · rw [ha5.2.2 85 (by unfold scrR; omega), ha4'.2.2 85 (by unfold scrR; omega)]; exact hl1.2.2.1
              · rw [ha5.2.2 86 (by unfold scrR; omega), ha4'.2.2 86 (by unfold scrR; omega)]; exact hl1.2.2.2
              · rw [show swn (sS S) c = swapC (sS S) (c - 1) c by unfold swn; rw [if_neg z], ← swK_fate]
                exact hG5
        have outer : ∀ (k c : Nat) (m3 : pmMem) (l4 l5 l6 : Option Value), c + k = 12 → agA scr4 m1 m3 → len4 m3 → pm_G (d + 7) mX7_king 61 [some (.ref 65), some (.int (nI 2)), some (.int (nI (minN (fun c => maxN (fun h => kL (sL S) 1 (sayC (sL S) (swn (sS S) c) h)) (sL S).1) c))), some (.int (nI c)), l4, l5, l6] [] m3 Q := by
          intro k
          induction k with
          | zero =>
            intro c m3 l4 l5 l6 hc ha hl1
            have e : c = 12 := by omega
            subst e
            exact gX7_king_61 (fun _ => fin m3 ha hl1) (fun z => absurd (by decide) z)
          | succ k ih =>
            intro c m3 l4 l5 l6 hc ha hl1
            exact gX7_king_61 (fun z => absurd z (n12 (by omega))) (fun _ => inner (sL S).1 0 c m3 l6 (by omega) (by omega) ha hl1 (fun m4 l4 l5 l6 a4 b4 => ih (c + 1) m4 l4 l5 l6 (by omega) a4 b4))
        exact outer 12 0 m2 _ _ _ (by omega) a2 l2'
      · intro z1 z2
        have e : n = 1 := by omega
        subst e
        exact c7_lastTurn (landR_4 h1.2.2.1 a2) (f15 m2 a2) ok d0 hH2 l2' hz (fun m3 a3 l3 => gX7_king_55 (fin m3 (agA_trans a2 (scrR_4 a3)) l3))
      · intro _ z2
        subst z2
        refine c7_cursedAside hG2 (gX7_king_45 ?_)
        rw [show curS (fateC (sS S)) = (sS S).2.2.2.2 from dj_fate d0 ok.2.2.2]
        exact c7_ones ok.2.2.2 (gX7_king_48 (fin m2 a2 l2'))
    · intro _ hz
      rw [if_pos hz] at K
      exact K m h (ag_refl _ _)
  · simp only [o_king, i1] at K
    exact gX7_king_9 (fun z => absurd rfl z) (fun z => absurd rfl z) (fun _ => K m h (ag_refl _ _))
end KINGR

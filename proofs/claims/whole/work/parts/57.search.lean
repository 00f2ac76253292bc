section SEARCH
variable {d : Nat} {m m0 : pmMem} {Q : Option Value → pmMem → Prop} {S : Sg} {L : Ld} {s : Cs} {t : Nat}
theorem dif_or_pow {u h : Nat} (hb : u.testBit h = false) : dif (u ||| 2 ^ h) (2 ^ h) = u := by
  apply Nat.eq_of_testBit_eq
  intro i
  rw [dif_bit, Nat.testBit_or, Nat.testBit_two_pow]
  by_cases c : h = i
  · subst c; simp [hb]
  · simp [c]
theorem or_lt64 {u h : Nat} (hu : u < 64) (hh : h < 6) : u ||| 2 ^ h < 64 := by
  have : 2 ^ h < 2 ^ 6 := Nat.pow_lt_pow_right (by omega) hh
  exact Nat.or_lt_two_pow (n := 6) hu this
theorem se_used {m1 : pmMem} {u u' : Nat} {pre : List Nat} {W : OW} (h : seM L s t u pre W m) (e : m1 = pm_setF m 26 6 (nI u')) : seM L s t u' pre W m1 := by
  obtain ⟨h1, h2, h3, h4, h5, h6, h7, h8, h9⟩ := h
  have A : m1.2 = m.2 := by rw [e]; rfl
  have F : ∀ k, k ≠ 6 → m1.1 26 k = m.1 26 k := fun k hk => by rw [e, pm_rF, if_neg (by omega)]
  refine ⟨by rw [F 5 (by omega)]; exact h1, by rw [e, pm_rF, if_pos ⟨rfl, rfl⟩], by rw [F 7 (by omega)]; exact h3, by rw [A]; exact h4, by rw [A]; exact h5, by rw [A]; exact h6, ?_, ?_, ?_⟩
  · unfold wM1 at h7 ⊢; rw [F 8 (by omega), A]; exact h7
  · unfold wM2 at h8 ⊢; rw [F 9 (by omega), A]; exact h8
  · unfold wM3 at h9 ⊢; rw [F 10 (by omega), F 11 (by omega)]; exact h9
theorem se_push {m1 : pmMem} {u h : Nat} {pre : List Nat} {W : OW} (hs : seM L s t u pre W m) (hk : pre.length < 6) (e : m1 = pm_setA m 29 ((m.2.1 29).set pre.length (nI h))) : seM L s t u (pre ++ [h]) W m1 := by
  obtain ⟨h1, h2, h3, ⟨l7, l8, l9, l0, lx⟩, h5, h6, h7, h8, h9⟩ := hs
  have A : ∀ c, c ≠ 29 → m1.2.1 c = m.2.1 c := fun c hc => by rw [e, pm_rA, if_neg hc]
  have A29 : m1.2.1 29 = (m.2.1 29).set pre.length (nI h) := by rw [e, pm_rA, if_pos rfl]
  have F : m1.1 = m.1 := by rw [e]; rfl
  refine ⟨by rw [F]; exact h1, by rw [F]; exact h2, by rw [F]; exact h3, ⟨by rw [A 27 (by omega)]; exact l7, by rw [A 28 (by omega)]; exact l8, by rw [A29, List.length_set]; exact l9, by rw [A 30 (by omega)]; exact l0, by rw [A 31 (by omega)]; exact lx⟩, by rw [A 27 (by omega), A 28 (by omega)]; exact h5, ?_, ?_, ?_, ?_⟩
  · rw [A29, List.length_append, show [h].length = 1 from rfl, take_set (by omega), h6, List.map_append]; rfl
  · unfold wM1 at h7 ⊢; rw [F, A 30 (by omega)]; exact h7
  · unfold wM2 at h8 ⊢; rw [F, A 31 (by omega)]; exact h8
  · unfold wM3 at h9 ⊢; rw [F]; exact h9
theorem se_pop {u h : Nat} {pre : List Nat} {W : OW} (hs : seM L s t u (pre ++ [h]) W m) : seM L s t u pre W m := by
  obtain ⟨h1, h2, h3, h4, h5, h6, h7⟩ := hs
  refine ⟨h1, h2, h3, h4, h5, ?_, h7⟩
  have := congrArg (List.take pre.length) h6
  rw [List.take_take, List.length_append, Nat.min_eq_left (by omega), List.map_append, List.take_append_of_le_length (by rw [List.length_map]; omega)] at this
  rw [this]; exact List.take_of_length_le (by rw [List.length_map]; omega)
theorem c_goOn (hL6 : L.1 ≤ 6) (hok : csOk s) (ht : t ≤ 12) : ∀ (f : Nat) (pre : List Nat) (used : Nat) (W : OW) (m : pmMem) (Q : Option Value → pmMem → Prop) (l4 : Option Value), f + pre.length = L.1 → used < 64 → seM L s t used pre W m → ag seD m0 m → (∀ m', seM L s t used pre ((dfsL L.1 f used pre).foldl (wgh L s t) W) m' → ag seD m0 m' → Q none m') → pm_G (d + 2 * f + 2) mX3_goOn 0 [some (.ref 26), some (.int (nI pre.length)), some (.int (nI (ordS L s pre).2.2.2.1)), some (.int (nI (ordS L s pre).2.2.2.2)), l4] [] m Q := by
  intro f
  induction f with
  | zero =>
    intro pre used W m Q l4 hf hu h ha K
    have nlt : ¬ nI pre.length < m.1 26 5 := by
      rw [h.1]; intro z
      have := (ni_lt (by omega) (by omega)).mp z
      omega
    exact gX3_goOn_0 (fun z => absurd z nlt) (fun _ => c_weigh h (by omega) ht hok ha (fun m' h' a' => gX3_goOn_13 (K m' h' a')))
  | succ f ih =>
    intro pre used W m Q l4 hf hu h ha K
    have lt : nI pre.length < m.1 26 5 := by
      rw [h.1]; exact (ni_lt (by omega) (by omega)).mpr (by omega)
    refine gX3_goOn_0 (fun _ => ?_) (fun z => absurd lt z)
    simp only [dfsL] at K
    have loop : ∀ (k i : Nat) (m1 : pmMem), i + k = L.1 → seM L s t used pre (((List.range i).flatMap (fun h => if used.testBit h then [] else dfsL L.1 f (used ||| 2 ^ h) (pre ++ [h]))).foldl (wgh L s t) W) m1 → ag seD m0 m1 → pm_G (d + 2 * f + 2 + 2) mX3_goOn 17 [some (.ref 26), some (.int (nI pre.length)), some (.int (nI (ordS L s pre).2.2.2.1)), some (.int (nI (ordS L s pre).2.2.2.2)), some (.int (nI i))] [] m1 Q := by
      intro k
      induction k with
      | zero =>
        intro i m1 hi h1 a1
        have e : i = L.1 := by omega
        subst e
        have le : m1.1 26 5 ≤ nI L.1 := by rw [h1.1]; exact Int32.le_refl _
        exact gX3_goOn_17 (fun _ => K m1 h1 a1) (fun z => absurd le z) (fun z => absurd le z)
      | succ k ihk =>
        intro i m1 hi h1 a1
        have nle : ¬ m1.1 26 5 ≤ nI i := by rw [h1.1]; exact nle_ni (by omega) (by omega)
        have nx := fun m2 => ihk (i + 1) m2 (by omega)
        rw [List.range_succ, List.flatMap_append, List.foldl_append, List.flatMap_singleton] at nx
        have bit := ni_bit0 (s := used) (i := i) (by omega) (by omega)
        refine gX3_goOn_17 (fun z => absurd z nle) ?_ ?_ <;> rw [h1.2.1, bit]
        · intro _ z
          have zt : used.testBit i = true := eq_true_of_ne_false z
          rw [if_pos zt] at nx
          rw [nI_1]
          exact nx m1 h1 a1
        · intro _ z
          rw [if_neg (by rw [z]; decide)] at nx
          obtain ⟨g1, g2, g3, ⟨l7, l8, l9, l0, lx⟩, g5, g6, g7⟩ := id h1
          obtain ⟨sn, wd⟩ := g5 i (by omega)
          have hcl : (nI i).toNatClampNeg = i := ni_cl (by omega)
          have hck : (nI pre.length).toNatClampNeg = pre.length := ni_cl (by omega)
          have w3 : wordC L s i < 3 := wordI_lt _
          have w28 : ∀ m2 m3 : pmMem, ∀ x y, m2 = pm_setA m1 29 x → m3 = pm_setF m2 26 6 y → m3.2.1 28 = m1.2.1 28 := fun m2 m3 x y e2 e3 => by rw [e3, e2]; show (pm_setA m1 29 x).2.1 28 = _; rw [pm_rA, if_neg (by omega)]
          have vi28 : ∀ m2 m3 : pmMem, ∀ x y, m2 = pm_setA m1 29 x → m3 = pm_setF m2 26 6 y → vp_in (nI i) (m3.2.1 28).length := fun m2 m3 x y e2 e3 => by rw [w28 m2 m3 x y e2 e3, l8]; exact ni_in (by omega) (by omega)
          have s4 := ordS_ok L pre s hok
          have go : ∀ (v1 : Int32) (m2 m3 : pmMem), m2 = pm_setA m1 29 ((m1.2.1 29).set (nI pre.length).toNatClampNeg (nI i)) → m3 = pm_setF m2 26 6 ((m2.1 26 6) ||| ((1 : Int32) <<< (nI i &&& 31))) → pm_G (d + 2 * f + 2) mX3_goOn 0 [some (.ref 26), some (.int (nI pre.length + 1)), some (.int (nI (ordS L s (pre ++ [i])).2.2.2.1)), some (.int (nI (ordS L s (pre ++ [i])).2.2.2.2)), none] [] m3 (fun r m' => pm_G (d + 2 * f + 2 + 1) mX3_choose 79 [some (.ref 26), some (.int (nI i)), some (.int (nI pre.length)), some (.int (nI (ordS L s pre).2.2.2.1)), some (.int (nI (ordS L s pre).2.2.2.2)), some (.int v1)] (pm_psh r []) m' (fun r2 m2 => pm_G (d + 2 * f + 2 + 2) mX3_goOn 47 [some (.ref 26), some (.int (nI pre.length)), some (.int (nI (ordS L s pre).2.2.2.1)), some (.int (nI (ordS L s pre).2.2.2.2)), some (.int (nI i))] (pm_psh r2 []) m2 Q)) := by
            intro v1 m2 m3 e2 e3
            rw [hck] at e2
            have h2 := se_push (h := i) h1 (by omega) e2
            rw [h2.2.1, ni_shl i (by omega), ni_or] at e3
            have h3 := se_used h2 e3
            have a3 : ag seD m0 m3 := by rw [e3, e2]; exact ag_F (ag_A a1 (by unfold seD; omega)) (by unfold seD; omega)
            have IH := ih (pre ++ [i]) (used ||| 2 ^ i) _ m3 (fun r m' => pm_G (d + 2 * f + 2 + 1) mX3_choose 79 [some (.ref 26), some (.int (nI i)), some (.int (nI pre.length)), some (.int (nI (ordS L s pre).2.2.2.1)), some (.int (nI (ordS L s pre).2.2.2.2)), some (.int v1)] (pm_psh r []) m' (fun r2 m2 => pm_G (d + 2 * f + 2 + 2) mX3_goOn 47 [some (.ref 26), some (.int (nI pre.length)), some (.int (nI (ordS L s pre).2.2.2.1)), some (.int (nI (ordS L s pre).2.2.2.2)), some (.int (nI i))] (pm_psh r2 []) m2 Q)) none (by rw [List.length_append]; show f + (pre.length + 1) = _; omega) (or_lt64 hu (by omega)) h3 a3 (fun m4 h4 a4 => gX3_choose_79 (fun m5 e5 => gX3_goOn_47 ?_))
            · rw [List.length_append, show [i].length = 1 from rfl] at IH
              rw [nI_1]
              exact IH
            · rw [h4.2.1, ni_shl i (by omega), ni_andn, dif_or_pow z] at e5
              rw [nI_1]
              exact nx m5 (se_used (se_pop h4) e5) (by rw [e5]; exact ag_F a4 (by unfold seD; omega))
          have ev : ∀ v1 : Int32, v1 = (((m1.2.1 27).getD (nI i).toNatClampNeg 0) &&& ((nI (ordS L s pre).2.2.2.1 ||| nI (ordS L s pre).2.2.2.2) ^^^ (-1))) → v1 = nI (dif (seenC L s i) ((ordS L s pre).2.2.2.1 ||| (ordS L s pre).2.2.2.2)) := fun v1 e => by
            rw [hcl, sn, ni_or, ni_andn] at e; exact e
          have eb : (ordS L s (pre ++ [i])).2.2.2.1 = if wordC L s i = 1 then (ordS L s pre).2.2.2.1 ||| dif (seenC L s i) ((ordS L s pre).2.2.2.1 ||| (ordS L s pre).2.2.2.2) else (ordS L s pre).2.2.2.1 := by
            rw [ordS_snoc]; show (if wordC L (ordS L s pre) i = 1 then _ else _) = _; rw [ordS_word, ordS_seen]
          have ec : (ordS L s (pre ++ [i])).2.2.2.2 = if wordC L s i = 2 then (ordS L s pre).2.2.2.2 ||| dif (seenC L s i) ((ordS L s pre).2.2.2.1 ||| (ordS L s pre).2.2.2.2) else (ordS L s pre).2.2.2.2 := by
            rw [ordS_snoc]; show (if wordC L (ordS L s pre) i = 2 then _ else _) = _; rw [ordS_word, ordS_seen]
          have z1 : ∀ m2 m3 : pmMem, ∀ x y, m2 = pm_setA m1 29 x → m3 = pm_setF m2 26 6 y → (((m3.2.1 28).getD (nI i).toNatClampNeg 0 = 1) ↔ wordC L s i = 1) ∧ (((m3.2.1 28).getD (nI i).toNatClampNeg 0 = 2) ↔ wordC L s i = 2) := fun m2 m3 x y e2 e3 => by
            rw [w28 m2 m3 x y e2 e3, hcl, wd]
            exact ⟨ni_eq (b := 1) (by omega) (by omega), ni_eq (b := 2) (by omega) (by omega)⟩
          refine gX3_choose_0 (fun _ _ => by rw [l9]; exact ni_in (by omega) (by omega)) (fun _ _ m2 e2 m3 e3 _ => vi28 m2 m3 _ _ e2 e3) (fun _ _ m2 e2 m3 e3 _ => vi28 m2 m3 _ _ e2 e3) (fun _ _ m2 e2 m3 e3 => vi28 m2 m3 _ _ e2 e3) (by rw [l7]; exact ni_in (by omega) (by omega)) (fun v1 e1 m2 e2 m3 e3 y1 y2 => ?_) (fun v1 e1 m2 e2 m3 e3 y1 y2 => ?_) (fun v1 e1 m2 e2 m3 e3 y1 y2 => ?_) (fun v1 e1 m2 e2 m3 e3 y1 y2 => ?_)
          · rw [(z1 m2 m3 _ _ e2 e3).1] at y1
            rw [(z1 m2 m3 _ _ e2 e3).2] at y2
            have G := go v1 m2 m3 e2 e3
            rw [eb, ec, if_neg y1, if_neg y2] at G
            exact G
          · rw [(z1 m2 m3 _ _ e2 e3).1] at y1
            rw [(z1 m2 m3 _ _ e2 e3).2] at y2
            have G := go v1 m2 m3 e2 e3
            rw [eb, ec, if_neg y1, if_pos y2, ← ni_or, ← ev v1 e1] at G
            exact G
          · rw [(z1 m2 m3 _ _ e2 e3).1] at y1
            rw [(z1 m2 m3 _ _ e2 e3).2] at y2
            have G := go v1 m2 m3 e2 e3
            rw [eb, ec, if_pos y1, if_neg y2, ← ni_or, ← ev v1 e1] at G
            exact G
          · rw [(z1 m2 m3 _ _ e2 e3).1] at y1
            rw [(z1 m2 m3 _ _ e2 e3).2] at y2
            omega
    exact loop L.1 0 m (by omega) h ha
theorem RC_se {m' : pmMem} (h : RC S m) (ha : ag seD m m') (hl : (m'.2.1 27).length = 6 ∧ (m'.2.1 28).length = 6 ∧ (m'.2.1 29).length = 6 ∧ (m'.2.1 30).length = 6 ∧ (m'.2.1 31).length = 6) : RC S m' := by
  have sc := h.2.2.2.2.2.1
  have e : ∀ c, c < 26 → m'.2.1 c = m.2.1 c := fun c hc => (ha c (by unfold seD; omega)).2.1
  refine RC_upd h ha (Or.inl ⟨rfl, fun c _ _ z => by unfold seD at z; omega⟩) (Or.inl ⟨rfl, fun c _ _ z => by unfold seD at z; omega⟩) (Or.inl ⟨rfl, fun c _ _ z => by unfold seD at z; omega⟩) (Or.inl ⟨rfl, rfl, rfl, fun c _ _ z => by unfold seD at z; omega⟩) (Or.inl ⟨rfl, rfl, rfl, fun z => by unfold seD at z; omega, fun c _ _ z => by unfold seD at z; omega⟩) (Or.inr ⟨?_, ?_, ?_, ?_, ?_, hl⟩) (Or.inl ⟨rfl, fun z => by unfold seD at z; omega⟩) (Or.inl ⟨rfl, fun z => by unfold seD at z; omega, fun z => by unfold seD at z; omega⟩) h.2.2.2.2.2.2.2.2
  · rw [e 4 (by omega)]; exact sc.1
  · rw [e 5 (by omega)]; exact sc.2.1
  · rw [e 6 (by omega)]; exact sc.2.2.1
  · rw [e 7 (by omega)]; exact sc.2.2.2.1
  · unfold campLen; rw [e (20 + 1) (by omega), e (20 + 2) (by omega), e (20 + 3) (by omega)]; exact sc.2.2.2.2.1
theorem c_search {l3 : Option Value} (h : RC S m) (ht : t ≤ 12) (K : ∀ m', RC S m' → seM (sL S) (sS S) t 0 [] (ordW (sL S) (sS S) t) m' → ag (fun c => c < 65) m m' → Q none m') : pm_G (d + 15) mX3_goThrough 0 [some (.ref 26), some (.ref 16), some (.int (nI t)), l3] [] m Q := by
  have hL := h.2.2.1
  have hL6 := hL.2.1
  have C := h.2.2.2.1.1
  have ok := C.2.2.2.2.2
  have sc := h.2.2.2.2.2.1.2.2.2.2.2
  have loop : ∀ (k i : Nat) (m1 : pmMem), i + k = (sL S).1 → m1.1 26 5 = nI (sL S).1 → ag seD m m1 → ((m1.2.1 27).length = 6 ∧ (m1.2.1 28).length = 6 ∧ (m1.2.1 29).length = 6 ∧ (m1.2.1 30).length = 6 ∧ (m1.2.1 31).length = 6) → (∀ j, j < i → (m1.2.1 27).getD j 0 = nI (seenC (sL S) (sS S) j) ∧ (m1.2.1 28).getD j 0 = nI (wordC (sL S) (sS S) j)) → pm_G (d + 15) mX3_goThrough 13 [some (.ref 26), some (.ref 16), some (.int (nI t)), some (.int (nI i))] [] m1 Q := by
    intro k
    induction k with
    | zero =>
      intro i m1 hi h5 a1 hl inv
      have e : i = (sL S).1 := by omega
      subst e
      have le : m1.1 26 5 ≤ nI (sL S).1 := by rw [h5]; exact Int32.le_refl _
      refine gX3_goThrough_13 rfl (fun _ m2 e2 m3 e3 m4 e4 m5 e5 m6 e6 m7 e7 => ?_) (fun z => absurd le z)
      have A : m7.2 = m1.2 := by rw [e7, e6, e5, e4, e3, e2]; rfl
      have a7 : ag seD m m7 := by
        rw [e7, e6, e5, e4, e3, e2]
        exact ag_F (ag_F (ag_F (ag_F (ag_F (ag_F a1 (by unfold seD; omega)) (by unfold seD; omega)) (by unfold seD; omega)) (by unfold seD; omega)) (by unfold seD; omega)) (by unfold seD; omega)
      have C7 : campM (sS S) 16 m7 := campM_ag C a7 (by unfold seD; omega) (by unfold seD; omega)
      rw [C7.2.2.2.1, C7.2.2.2.2.1]
      have s7 : seM (sL S) (sS S) t 0 [] W0 m7 := by
        refine ⟨?_, ?_, ?_, by rw [A]; exact hl, by rw [A]; exact inv, rfl, ?_, ?_, ?_, ?_, ?_⟩
        · rw [e7, pm_rF, if_neg (by omega), e6, pm_rF, if_neg (by omega), e5, pm_rF, if_neg (by omega), e4, pm_rF, if_neg (by omega), e3, pm_rF, if_neg (by omega), e2, pm_rF, if_neg (by omega)]; exact h5
        · rw [e7, pm_rF, if_neg (by omega), e6, pm_rF, if_neg (by omega), e5, pm_rF, if_neg (by omega), e4, pm_rF, if_neg (by omega), e3, pm_rF, if_neg (by omega), e2, pm_rF, if_pos ⟨rfl, rfl⟩]; rfl
        · rw [e7, pm_rF, if_neg (by omega), e6, pm_rF, if_neg (by omega), e5, pm_rF, if_neg (by omega), e4, pm_rF, if_neg (by omega), e3, pm_rF, if_pos ⟨rfl, rfl⟩]
        · show m7.1 26 8 = -1
          rw [e7, pm_rF, if_neg (by omega), e6, pm_rF, if_neg (by omega), e5, pm_rF, if_neg (by omega), e4, pm_rF, if_pos ⟨rfl, rfl⟩]
        · show m7.1 26 9 = 13
          rw [e7, pm_rF, if_neg (by omega), e6, pm_rF, if_neg (by omega), e5, pm_rF, if_pos ⟨rfl, rfl⟩]
        · show m7.1 26 10 = nI 0
          rw [e7, pm_rF, if_neg (by omega), e6, pm_rF, if_pos ⟨rfl, rfl⟩]; rfl
        · show m7.1 26 11 = nI 4095
          rw [e7, pm_rF, if_pos ⟨rfl, rfl⟩]; rfl
        · show (4095 : Nat) < 4096; omega
      have dd : d + 14 = (d + 12 - 2 * (sL S).1) + 2 * (sL S).1 + 2 := by omega
      rw [dd]
      exact c_goOn (m0 := m) hL6 ok ht (sL S).1 [] 0 W0 m7 _ none (by simp) (by omega) s7 a7 (fun m8 h8 a8 => gX3_goThrough_95 (K m8 (RC_se h a8 h8.2.2.2.1) h8 (ag_mono (fun c z => by unfold seD at z; omega) a8)))
    | succ k ih =>
      intro i m1 hi h5 a1 hl inv
      have nle : ¬ m1.1 26 5 ≤ nI i := by rw [h5]; exact nle_ni (by omega) (by omega)
      have L1 : landM (sL S) m1 := landM_ag hL a1 (fun c _ _ z => by unfold seD at z; omega)
      have C1 : campM (sS S) 16 m1 := campM_ag C a1 (by unfold seD; omega) (by unfold seD; omega)
      refine gX3_goThrough_13 rfl (fun z => absurd z nle) (fun _ => c_seenFrom rfl L1 C1 (by omega) (gX3_goThrough_31 rfl (by rw [hl.1]; exact ni_in (by omega) (by omega)) (fun m2 e2 => ?_)))
      rw [ni_cl (by omega)] at e2
      have a2 : ag seD m m2 := by rw [e2]; exact ag_A a1 (by unfold seD; omega)
      have L2 : landM (sL S) m2 := landM_ag hL a2 (fun c _ _ z => by unfold seD at z; omega)
      have C2 : campM (sS S) 16 m2 := campM_ag C a2 (by unfold seD; omega) (by unfold seD; omega)
      have l28 : (m2.2.1 28).length = 6 := by rw [e2, pm_rA, if_neg (by omega)]; exact hl.2.1
      refine c_wordFrom rfl L2 C2 (by omega) (gX3_goThrough_42 (by rw [l28]; exact ni_in (by omega) (by omega)) (fun m3 e3 => ?_))
      rw [ni_cl (by omega)] at e3
      have x27 : m3.2.1 27 = (m1.2.1 27).set i (nI (seenC (sL S) (sS S) i)) := by rw [e3, pm_rA, if_neg (by omega), e2, pm_rA, if_pos rfl]
      have x28 : m3.2.1 28 = (m1.2.1 28).set i (nI (wordC (sL S) (sS S) i)) := by rw [e3, pm_rA, if_pos rfl, e2, pm_rA, if_neg (by omega)]
      have o : ∀ c, c ≠ 27 → c ≠ 28 → m3.2.1 c = m1.2.1 c := fun c p q => by rw [e3, pm_rA, if_neg q, e2, pm_rA, if_neg p]
      rw [nI_1]
      refine ih (i + 1) m3 (by omega) (by rw [e3, e2]; exact h5) (by rw [e3]; exact ag_A a2 (by unfold seD; omega)) ⟨by rw [x27, List.length_set]; exact hl.1, by rw [x28, List.length_set]; exact hl.2.1, by rw [o 29 (by omega) (by omega)]; exact hl.2.2.1, by rw [o 30 (by omega) (by omega)]; exact hl.2.2.2.1, by rw [o 31 (by omega) (by omega)]; exact hl.2.2.2.2⟩ (fun j hj => ?_)
      rw [x27, x28, getD_set (by rw [hl.1]; omega), getD_set (by rw [hl.2.1]; omega)]
      by_cases c : j = i
      · subst c; simp
      · simp only [if_neg c]; exact inv j (by omega)
  refine gX3_goThrough_0 rfl (fun m1 e1 => ?_)
  rw [hL.1] at e1
  have a1 : ag seD m m1 := by rw [e1]; exact ag_F (ag_refl _ _) (by unfold seD; omega)
  exact loop (sL S).1 0 m1 (by omega) (by rw [e1, pm_rF, if_pos ⟨rfl, rfl⟩]) a1 (by rw [e1]; exact sc) (fun j hj => absurd hj (by omega))
end SEARCH

section READR2
variable {d : Nat} {m m0 : pmMem} {Q : Option Value → pmMem → Prop} {S : Sg} {l : List Int32} {t q n : Nat} {H : Nat → Nat × Nat × Nat}
theorem kdO_some {c : Int32} {k : Nat} (h : c = pm_let k) (hk : k < 6) (inv : ∀ e, e < k → ¬ c = pm_let e) : kdO c = some k := fstN_some (decide_eq_true h) (fun e he => decide_eq_false (inv e he)) 6 hk
theorem c7_kindBy {c : Int32} (K : Q (some (.int (optI (kdO c)))) m) : pm_G d mX7_kindBy 0 [some (.int c)] [] m Q := by
  have p : ∀ {k : Nat}, k < 6 → c = pm_let k → (∀ e, e < k → ¬ c = pm_let e) → Q (some (.int (nI k))) m := fun hk h inv => by rw [kdO_some h hk inv] at K; exact K
  refine gX7_kindBy_0 (fun z0 z1 z2 z3 z4 z5 => ?_) (fun z0 z1 z2 z3 z4 z5 => p (k := 5) (by omega) z5 (fun e he => ?_)) (fun z0 z1 z2 z3 z4 => p (k := 4) (by omega) z4 (fun e he => ?_)) (fun z0 z1 z2 z3 => p (k := 3) (by omega) z3 (fun e he => ?_)) (fun z0 z1 z2 => p (k := 2) (by omega) z2 (fun e he => ?_)) (fun z0 z1 => p (k := 1) (by omega) z1 (fun e he => ?_)) (fun z0 => p (k := 0) (by omega) z0 (fun e he => absurd he (by omega)))
  · rw [show kdO c = none from fstN_none 6 (fun e he => decide_eq_false (by
      rcases (show e = 0 ∨ e = 1 ∨ e = 2 ∨ e = 3 ∨ e = 4 ∨ e = 5 by omega) with w | w | w | w | w | w <;> subst w <;> assumption))] at K
    exact K
  · rcases (show e = 0 ∨ e = 1 ∨ e = 2 ∨ e = 3 ∨ e = 4 by omega) with w | w | w | w | w <;> subst w <;> assumption
  · rcases (show e = 0 ∨ e = 1 ∨ e = 2 ∨ e = 3 by omega) with w | w | w | w <;> subst w <;> assumption
  · rcases (show e = 0 ∨ e = 1 ∨ e = 2 by omega) with w | w | w <;> subst w <;> assumption
  · rcases (show e = 0 ∨ e = 1 by omega) with w | w <;> subst w <;> assumption
  · rcases (show e = 0 by omega) with w; subst w; assumption
theorem c7_hillItem {l1 l2 l3 l4 : Option Value} (h : rrM l t q n m) (ha : agR rdD rdE noG m0 m) (hH : hOkR n H m) (hn : n ≤ 6) (hq : q < 800) (kf : ∀ m' e, (if n = 6 then e = 0 else hRes l q = .inl e) → rrM l t (q + e) n m' → agR rdD rdE noG m0 m' → Q (some (.int 0)) m') (kt : ∀ m' v, n ≠ 6 → hRes l q = .inr v → rrM l t (q + 4) (n + 1) m' → hOkR (n + 1) (upo H n v) m' → m'.2.1 83 = m.2.1 83 → agR rdD rdE noG m0 m' → Q (some (.int 1)) m') : pm_G (d + 2) mX7_hillItem 0 [some (.ref 65), l1, l2, l3, l4] [] m Q := by
  refine gX7_hillItem_0 ?_
  rw [h.2.2.2.2.2.1]
  refine c7_byteAt h (by omega) (gX7_hillItem_8 (c7_kindBy ?_))
  have n6 : (m.1 65 26 = 6) ↔ n = 6 := by rw [h.2.2.2.2.2.2.1]; exact ni_eq (b := 6) (by omega) (by omega)
  cases e0 : kdO (chr l q) with
  | none =>
    refine gX7_hillItem_11 (fun _ => kf m 0 ?_ h ha) (fun z => absurd (by decide) z) (fun z => absurd (by decide) z)
    by_cases c : n = 6
    · rw [if_pos c]
    · rw [if_neg c]; unfold hRes; rw [e0]
  | some k =>
    have k6 := kdO_lt e0
    simp only [optI]
    refine gX7_hillItem_11 (fun z => absurd z (nI_pos (by omega))) ?_ ?_ <;> rw [n6]
    · intro _ cn m1 e1
      simp only [if_neg cn] at kf
      rw [h.2.2.2.2.2.1, nI_1] at e1
      have h1 := rr_place h e1
      have a1 := agR_p ha e1
      refine c7_figure (lo := 0) (hi := 1) h1 (by omega) (by omega) (by omega) (fun t' m2 f1 _ t1 e2 => ?_) (fun hno => ?_)
      · have h2 := rr_place h1 e2
        have a2 := agR_p a1 e2
        have i1 : (nI t' = 1) ↔ t' = 1 := ni_eq (b := 1) (by omega) (by omega)
        have p0 : (0 : Int32) ≤ nI t' := nI_pos' (by omega)
        have R1 : hRes l q = match figO l (q + 1 + 1) with
          | none => .inl 2
          | some o => if 12 ≤ 10 * t' + o then .inl 2 else match figO l (q + 1 + 1 + 1) with
            | none => .inl 3
            | some b => if b = 0 then .inl 3 else .inr (k, 10 * t' + o, b) := by
          unfold hRes; rw [e0]; simp only [f1, if_neg (show ¬ 12 ≤ 10 * t' by omega)]
          rfl
        have bad2 : (∀ v, figO l (q + 1 + 1) = some v → 12 ≤ 10 * t' + v) → pm_G (d + 2) mX7_hillItem 68 [some (.ref 65), some (.int (nI k)), some (.int (nI t')), l3, l4] [.int (-1)] m2 Q := by
          intro hv
          refine gX7_hillItem_68 (fun z => absurd z (by decide)) (fun _ => kf m2 2 ?_ h2 a2)
          rw [R1]
          cases f2 : figO l (q + 1 + 1) with
          | none => rfl
          | some o => simp only [if_pos (hv o f2)]
        have good2 : ∀ o m3, figO l (q + 1 + 1) = some o → 10 * t' + o < 12 → m3 = pm_setF m2 65 25 (nI (q + 1 + 1 + 1)) → pm_G (d + 2) mX7_hillItem 68 [some (.ref 65), some (.int (nI k)), some (.int (nI t')), l3, l4] [.int (nI o)] m3 Q := by
          intro o m3 f2 ho e3
          have h3 := rr_place h2 e3
          have a3 := agR_p a2 e3
          have o10 := (figO_lt f2).1
          rw [f2] at R1
          simp only [if_neg (show ¬ 12 ≤ 10 * t' + o by omega)] at R1
          refine gX7_hillItem_68 (fun _ => c7_figure (lo := 1) (hi := 9) h3 (by omega) (by omega) (by omega) (fun b m4 f3 b1 b9 e4 => ?_) (fun hno => ?_)) (fun z => absurd (nI_pos' (n := o) (by omega)) z)
          · have h4 := rr_place h3 e4
            have a4 := agR_p a3 e4
            rw [f3] at R1
            simp only [if_neg (show ¬ b = 0 by omega)] at R1
            obtain ⟨g1, g2, g3, g4, g5, g6, g7, g8, g9⟩ := h4
            have m42 : m4.2 = m.2 := by rw [e4, e3, e2, e1]; rfl
            have x26 : ∀ c : Nat, c ≤ 12 → nI c + nI n = nI (c + n) := fun c _ => nI_add c n
            refine gX7_hillItem_84 (fun _ => by rw [g7, g8]; exact ni_in (by omega) (by omega)) (fun _ m5 e5 => ?_) (fun _ m5 e5 m6 e6 => ?_) (fun _ m5 e5 m6 e6 m7 e7 m8 e8 => ?_) (fun z => absurd (nI_pos' (n := b) (by omega)) z)
            · have : m5.1 65 26 = nI n := by rw [e5]; exact g7
              rw [this, show (6 : Int32) = nI 6 from rfl, nI_add, e5, pm_rA, if_pos rfl, List.length_set, g8]; exact ni_in (by omega) (by omega)
            · have : m6.1 65 26 = nI n := by rw [e6, e5]; exact g7
              rw [this, show (12 : Int32) = nI 12 from rfl, nI_add, e6, pm_rA, if_pos rfl, List.length_set, e5, pm_rA, if_pos rfl, List.length_set, g8]; exact ni_in (by omega) (by omega)
            · have q5 : m5.1 65 26 = nI n := by rw [e5]; exact g7
              have q6 : m6.1 65 26 = nI n := by rw [e6]; exact q5
              have q7 : m7.1 65 26 = nI n := by rw [e7]; exact q6
              rw [g7, ni_cl (by omega)] at e5
              rw [q5, show (6 : Int32) = nI 6 from rfl, nI_add, ni_cl (by omega), show (10 : Int32) = nI 10 from rfl, pk_mul, nI_add] at e6
              rw [q6, show (12 : Int32) = nI 12 from rfl, nI_add, ni_cl (by omega)] at e7
              rw [q7, nI_1] at e8
              have x5 : m5.2.1 82 = (m.2.1 82).set n (nI k) := by rw [e5, pm_rA, if_pos rfl, m42]
              have x6 : m6.2.1 82 = ((m.2.1 82).set n (nI k)).set (6 + n) (nI (10 * t' + o)) := by rw [e6, pm_rA, if_pos rfl, x5]
              have x7 : m7.2.1 82 = (((m.2.1 82).set n (nI k)).set (6 + n) (nI (10 * t' + o))).set (12 + n) (nI b) := by rw [e7, pm_rA, if_pos rfl, x6]
              have x8 : m8.2.1 82 = (((m.2.1 82).set n (nI k)).set (6 + n) (nI (10 * t' + o))).set (12 + n) (nI b) := by rw [e8]; exact x7
              have l82 : (m.2.1 82).length = 18 := h.2.2.2.2.2.2.2.1
              have oth : ∀ c, c ≠ 82 → m8.2.1 c = m.2.1 c := fun c hc => by
                rw [e8]
                show m7.2.1 c = _
                rw [e7, pm_rA, if_neg hc, e6, pm_rA, if_neg hc, e5, pm_rA, if_neg hc, m42]
              have a8 : agR rdD rdE noG m0 m8 := by
                rw [e8, e7, e6, e5]
                exact agR_F (agR_A (agR_A (agR_A a4 (Or.inl rfl)) (Or.inl rfl)) (Or.inl rfl)) (by unfold rdE; omega)
              refine kt m8 _ cn R1 ⟨?_, by rw [oth 68 (by omega)]; exact h.2.1, by rw [oth 69 (by omega)]; exact h.2.2.1, h.2.2.2.1, ?_, ?_, ?_, by rw [x8, List.length_set, List.length_set, List.length_set]; exact l82, by rw [oth 83 (by omega)]; exact h.2.2.2.2.2.2.2.2⟩ ?_ (oth 83 (by omega)) a8
              · rw [oth 68 (by omega), oth 69 (by omega)]; exact h.1
              · rw [e8, pm_rF, if_neg (by omega), e7, e6, e5]; exact g5
              · rw [e8, pm_rF, if_neg (by omega), e7, e6, e5]; exact g6
              · rw [e8, pm_rF, if_pos ⟨rfl, rfl⟩]
              · intro i hi
                rw [x8]
                have L1 : ((m.2.1 82).set n (nI k)).length = 18 := by rw [List.length_set]; exact l82
                have L2 : (((m.2.1 82).set n (nI k)).set (6 + n) (nI (10 * t' + o))).length = 18 := by rw [List.length_set]; exact L1
                rw [getD_set (by omega), getD_set (by omega), getD_set (by omega), getD_set (by omega), getD_set (by omega), getD_set (by omega), getD_set (by omega), getD_set (by omega), getD_set (by omega)]
                unfold upo
                by_cases c : i = n
                · subst c
                  refine ⟨?_, ?_, ?_, ?_⟩
                  · rw [if_neg (by omega), if_neg (by omega), if_pos rfl, if_pos rfl]
                  · rw [if_neg (by omega), if_pos rfl, if_pos rfl]
                  · rw [if_pos rfl, if_pos rfl]
                  · rw [if_pos rfl]; exact hRes_ok R1
                · have hi2 := hH i (by omega)
                  refine ⟨?_, ?_, ?_, ?_⟩
                  · rw [if_neg (by omega), if_neg (by omega), if_neg (by omega), if_neg c]; exact hi2.1
                  · rw [if_neg (by omega), if_neg (by omega), if_neg (by omega), if_neg c]; exact hi2.2.1
                  · rw [if_neg (by omega), if_neg (by omega), if_neg (by omega), if_neg c]; exact hi2.2.2.1
                  · rw [if_neg c]; exact hi2.2.2.2
          · refine gX7_hillItem_84 (fun z => absurd z (by decide)) (fun z => absurd z (by decide)) (fun z => absurd z (by decide)) (fun z => absurd z (by decide)) (fun _ => kf m3 3 ?_ h3 a3)
            rw [R1]
            cases f3 : figO l (q + 1 + 1 + 1) with
            | none => rfl
            | some b =>
              have := hno b f3
              have := (figO_lt f3).1
              simp only [if_pos (show b = 0 by omega)]
        refine gX7_hillItem_43 ?_ ?_ (fun z => absurd p0 z) <;> rw [i1]
        · intro _ z
          refine c7_figure (lo := 0) (hi := 9) h2 (by omega) (by omega) (by omega) (fun o m3 f2 _ o9 e3 => good2 o m3 f2 (by omega) e3) (fun hno => bad2 (fun v hv => ?_))
          have := hno v hv
          have := (figO_lt hv).1
          omega
        · intro _ z
          refine c7_figure (lo := 0) (hi := 1) h2 (by omega) (by omega) (by omega) (fun o m3 f2 _ o9 e3 => good2 o m3 f2 (by omega) e3) (fun hno => bad2 (fun v hv => ?_))
          have := hno v hv
          omega
      · refine gX7_hillItem_43 (fun z => absurd z (by decide)) (fun z => absurd z (by decide)) (fun _ => kf m1 1 ?_ h1 a1)
        unfold hRes; rw [e0]
        cases f1 : figO l (q + 1) with
        | none => rfl
        | some v =>
          have := hno v f1
          simp only [if_pos (show 12 ≤ 10 * v by omega)]
    · intro _ cn
      exact kf m 0 (by rw [if_pos cn]) h ha
theorem c7_tentsItem {l1 l2 : Option Value} (h : rrM l t q n m) (ha : agR rdD rdE noG m0 m) (hq : q < 800) (kf : ∀ m' e, (if chr l q = 116 then ∃ i, tnF l (q + 1) = some i ∧ e = q + 1 + i else e = q) → rrM l t e n m' → agR rdD rdE noG m0 m' → Q (some (.int 0)) m') (kt : ∀ m', chr l q = 116 → tnF l (q + 1) = none → rrM l t (q + 13) n m' → m'.2.1 83 = gvL l (q + 1) → agR rdD rdE noG m0 m' → Q (some (.int 1)) m') : pm_G (d + 2) mX7_tentsItem 0 [some (.ref 65), l1, l2] [] m Q := by
  refine gX7_tentsItem_0 ?_
  rw [h.2.2.2.2.2.1]
  refine c7_byteAt h (by omega) (gX7_tentsItem_8 (fun w m1 e1 => ?_) (fun w => kf m q (by rw [if_neg w]) h ha))
  rw [h.2.2.2.2.2.1, nI_1] at e1
  have loop : ∀ (k i : Nat) (m1 : pmMem) (l2 : Option Value), i + k = 12 → (∀ e, e < i → (!(figO l (q + 1 + e)).isSome) = false) → rrM l t (q + 1 + i) n m1 → (∀ j, j < i → (m1.2.1 83).getD j 0 = (chr l (q + 1 + j) - 48) - 4) → agR rdD rdE noG m0 m1 → pm_G (d + 2) mX7_tentsItem 27 [some (.ref 65), some (.int (nI i)), l2] [] m1 Q := by
    intro k
    induction k with
    | zero =>
      intro i m1 l2 hi inv h1 hg a1
      have e : i = 12 := by omega
      subst e
      refine gX7_tentsItem_27 (fun _ => kt m1 w (fstN_none 12 inv) h1 ?_ a1) (fun z => absurd (by decide) z)
      rw [lst_of h1.2.2.2.2.2.2.2.2]
      exact lst_congr (fun j hj => hg j hj)
    | succ k ih =>
      intro i m1 l2 hi inv h1 hg a1
      refine gX7_tentsItem_27 (fun z => absurd z (n12 (by omega))) (fun _ => c7_figure (lo := 0) (hi := 9) h1 (by omega) (by omega) (by omega) (fun v m2 f1 _ v9 e2 => ?_) (fun hno => ?_))
      · have h2 := rr_place h1 e2
        have a2 := agR_p a1 e2
        obtain ⟨v1, v2⟩ := figO_lt f1
        refine gX7_tentsItem_40 (fun _ => by rw [h2.2.2.2.2.2.2.2.2]; exact ni_in (by omega) (by omega)) (fun _ m3 e3 => ?_) (fun z => absurd (nI_pos' (n := v) (by omega)) z)
        rw [ni_cl (by omega), ← v2] at e3
        have m12 : m2.2 = m1.2 := by rw [e2]; rfl
        have x3 : m3.2.1 83 = (m1.2.1 83).set i ((chr l (q + 1 + i) - 48) - 4) := by rw [e3, pm_rA, if_pos rfl, m12]
        have l83 := h1.2.2.2.2.2.2.2.2
        rw [nI_1]
        refine ih (i + 1) m3 _ (by omega) (fun e he => ?_) ?_ (fun j hj => ?_) (by rw [e3]; exact agR_A a2 (Or.inr rfl))
        · by_cases c : e = i
          · rw [c, f1]; rfl
          · exact inv e (by omega)
        · obtain ⟨g1, g2, g3, g4, g5, g6, g7, g8, g9⟩ := h2
          refine ⟨?_, ?_, ?_, g4, ?_, ?_, ?_, ?_, by rw [x3, List.length_set]; exact l83⟩
          · rw [e3, pm_rA, if_neg (by omega), pm_rA, if_neg (by omega)]; exact g1
          · rw [e3, pm_rA, if_neg (by omega)]; exact g2
          · rw [e3, pm_rA, if_neg (by omega)]; exact g3
          · rw [e3]; exact g5
          · rw [e3]; exact g6
          · rw [e3]; exact g7
          · rw [e3, pm_rA, if_neg (by omega)]; exact g8
        · rw [x3, getD_set (by omega)]
          by_cases c : j = i
          · rw [if_pos c, c]
          · rw [if_neg c]; exact hg j (by omega)
      · have ho : figO l (q + 1 + i) = none := by
          cases f1 : figO l (q + 1 + i) with
          | none => rfl
          | some v =>
            have := hno v f1
            have := (figO_lt f1).1
            omega
        refine gX7_tentsItem_40 (fun z => absurd z (by decide)) (fun z => absurd z (by decide)) (fun _ => kf m1 (q + 1 + i) ?_ h1 a1)
        rw [if_pos w]
        exact ⟨i, fstN_some (by show (!(figO l (q + 1 + i)).isSome) = true; rw [ho]; rfl) inv 12 (by omega), rfl⟩
  exact loop 12 0 m1 _ (by omega) (fun e he => absurd he (by omega)) (rr_place h e1) (fun j hj => absurd hj (by omega)) (agR_p ha e1)
def rdEndR (l : List Int32) (m' : pmMem) : Prop := (m'.2.1 82).length = 18 ∧ (m'.2.1 83).length = 12 ∧ ((readF l).1 = -9 → m'.1 65 26 = nI (readF l).2.1.1 ∧ (readF l).2.1.1 ≤ 6 ∧ (readF l).2.1.1 ≠ 0 ∧ hOkR (readF l).2.1.1 (readF l).2.1.2 m' ∧ m'.2.1 83 = (readF l).2.2)
theorem c7_readAll (hg : gridM (some l) 60 t (m.2.1 69) (m.2.1 68)) (h68 : (m.2.1 68).length = 240) (h69 : (m.2.1 69).length = 4) (ht : t < 4) (h82 : (m.2.1 82).length = 18) (h83 : (m.2.1 83).length = 12) (K : ∀ m', agR rdD rdE noG m m' → rdEndR l m' → Q (some (.int (readF l).1)) m') : pm_G (d + 3) mX7_readAll 0 [some (.ref 65), some (.int (nI t))] [] m Q := by
  have l60 := hg.2.1
  have sk0 := skip_le l 0 l60
  have bad : ∀ m' q n, (readF l).1 = nI q → q < 1000 → rrM l t q n m' → agR rdD rdE noG m m' → Q (some (.int (m'.1 65 25))) m' := by
    intro m' q n e hq h1 a1
    rw [h1.2.2.2.2.2.1, ← e]
    exact K m' a1 ⟨h1.2.2.2.2.2.2.2.1, h1.2.2.2.2.2.2.2.2, fun z => by rw [e] at z; exact absurd z (nI_n9 hq)⟩
  refine gX7_readAll_0 (fun m1 e1 m2 e2 m3 e3 => ?_)
  have a3 : agR rdD rdE noG m m3 := by rw [e3, e2, e1]; exact agR_F (agR_F (agR_F (agR_refl _ _ _ _) (by unfold rdE; omega)) (by unfold rdE; omega)) (by unfold rdE; omega)
  have h3 : rrM l t 0 0 m3 := by
    refine ⟨?_, ?_, ?_, ht, ?_, ?_, ?_, ?_, ?_⟩
    · rw [e3, e2, e1]; exact hg
    · rw [e3, e2, e1]; exact h68
    · rw [e3, e2, e1]; exact h69
    · rw [e3, pm_rF, if_neg (by omega), e2, pm_rF, if_neg (by omega), e1, pm_rF, if_pos ⟨rfl, rfl⟩]
    · rw [e3, pm_rF, if_neg (by omega), e2, pm_rF, if_pos ⟨rfl, rfl⟩]; rfl
    · rw [e3, pm_rF, if_pos ⟨rfl, rfl⟩]; rfl
    · rw [e3, e2, e1]; exact h82
    · rw [e3, e2, e1]; exact h83
  refine c7_blanks h3 a3 (by omega) (fun m4 h4 e4 a4 => gX7_readAll_19 ?_)
  refine c7_tentsItem h4 a4 (by omega) (fun m5 e hE h5 a5 => ?_) (fun m5 t1 t2 h5 g5 a5 => ?_)
  · refine gX7_readAll_23 (fun z => absurd rfl z) (fun _ => ?_)
    by_cases c : chr l (skip l 0) = 116
    · rw [if_pos c] at hE
      obtain ⟨i, i1, i2⟩ := hE
      have i12 := fstN_lt 12 i1
      refine bad m5 e 0 ?_ (by omega) h5 a5
      unfold readF; rw [if_pos c, i1, i2]
    · rw [if_neg c] at hE
      refine bad m5 e 0 ?_ (by omega) h5 a5
      unfold readF; rw [if_neg c, hE]
  · refine gX7_readAll_23 (fun _ => ?_) (fun z => absurd z (by decide))
    have eF : readF l = ((rdH l 7 (skip l (skip l 0 + 13)) 0 (fun _ => (0, 0, 0))).1, (rdH l 7 (skip l (skip l 0 + 13)) 0 (fun _ => (0, 0, 0))).2, gvL l (skip l 0 + 1)) := by
      unfold readF; rw [if_pos t1, t2]
    generalize hR : rdH l 7 (skip l (skip l 0 + 13)) 0 (fun _ => (0, 0, 0)) = R at eF
    have loop : ∀ (f q n : Nat) (H : Nat → Nat × Nat × Nat) (m1 : pmMem), f + n = 7 → n ≤ 6 → q ≤ 80 + 4 * n → rrM l t q n m1 → hOkR n H m1 → m1.2.1 83 = gvL l (skip l 0 + 1) → agR rdD rdE noG m m1 → rdH l f q n H = R → pm_G (d + 3) mX7_readAll 35 [some (.ref 65), some (.int (nI t))] [] m1 Q := by
      intro f
      induction f with
      | zero => intro q n H m1 hf hn; omega
      | succ f ih =>
        intro q n H m1 hf hn hq h1 hH hg1 a1 eR
        have hcl : (nI t).toNatClampNeg = t := ni_cl (by omega)
        have el : ((m1.2.1 69).getD t 0 ≤ m1.1 65 25) ↔ l.length ≤ q := by rw [h1.1.1, h1.2.2.2.2.2.1]; exact ni_le (by omega) (by omega)
        have n0 : (m1.1 65 26 ≤ 0) ↔ n = 0 := by
          rw [h1.2.2.2.2.2.2.1, show (0 : Int32) = nI 0 from rfl, ni_le (by omega) (by omega)]; omega
        simp only [rdH] at eR
        refine gX7_readAll_35 (by rw [h1.2.2.1]; exact ni_in ht (by omega)) ?_ ?_ ?_ <;> simp only [hcl, el, n0]
        · intro z1 z2
          rw [if_pos (Or.inr z1), if_pos (Or.inr z2)] at eR
          refine bad m1 q n ?_ (by omega) h1 a1
          rw [eF, ← eR]
        · intro z1 z2
          rw [if_pos (Or.inr z1), if_neg (by omega)] at eR
          have e9 : (readF l).1 = -9 := by rw [eF, ← eR]
          rw [← e9]
          refine K m1 a1 ⟨h1.2.2.2.2.2.2.2.1, h1.2.2.2.2.2.2.2.2, fun _ => ?_⟩
          rw [eF, ← eR]
          exact ⟨h1.2.2.2.2.2.2.1, hn, z2, hH, hg1⟩
        · intro z1
          refine c7_hillItem h1 a1 hH hn (by omega) (fun m6 e hE h6 a6 => ?_) (fun m6 v cn hE h6 H6 g6 a6 => ?_)
          · refine gX7_readAll_52 (fun z => absurd rfl z) (fun _ => ?_)
            by_cases c : n = 6
            · rw [if_pos c] at hE
              subst hE
              rw [if_pos (Or.inl c), if_pos (Or.inl (by omega))] at eR
              refine bad m6 q n ?_ (by omega) h6 a6
              rw [eF, ← eR]
            · rw [if_neg c] at hE
              rw [if_neg (by omega), hE] at eR
              have := hRes_e hE
              refine bad m6 (q + e) n ?_ (by omega) h6 a6
              rw [eF, ← eR]
          · rw [if_neg (by omega), hE] at eR
            refine gX7_readAll_52 (fun _ => ?_) (fun z => absurd z (by decide))
            have s4 := skip_le l (q + 4) l60
            refine c7_blanks h6 a6 (by omega) (fun m7 h7 e7 a7 => gX7_readAll_64 ?_)
            refine ih (skip l (q + 4)) (n + 1) (upo H n v) m7 (by omega) (by omega) (by omega) h7 (by unfold hOkR; rw [e7]; exact H6) ?_ a7 eR
            rw [e7, g6]; exact hg1
    have s13 := skip_le l (skip l 0 + 13) l60
    refine c7_blanks h5 a5 (by omega) (fun m6 h6 e6 a6 => ?_)
    exact loop 7 (skip l (skip l 0 + 13)) 0 _ m6 (by omega) (by omega) (by omega) h6 (fun i hi => absurd hi (by omega)) (by rw [e6]; exact g5) a6 hR
theorem RR_rd {m' : pmMem} (h : RR S m) (ha : agR rdD rdE noG m m') (h82 : (m'.2.1 82).length = 18) (h83 : (m'.2.1 83).length = 12) : RR S m' := by
  have h7 := h.2.2.2.2.2.2.1
  have nD : ∀ c, c ≠ 82 → c ≠ 83 → ¬ rdD c := fun c a b z => by unfold rdD at z; omega
  have nE : ∀ c, c < 24 → ¬ rdE c := fun c a z => by unfold rdE at z; omega
  refine RR_upd h ha (Or.inl ⟨rfl, nD _ (by omega) (by omega), nD _ (by omega) (by omega)⟩) (Or.inl ⟨rfl, nD _ (by omega) (by omega), nD _ (by omega) (by omega)⟩) (Or.inl ⟨rfl, nE _ (by omega), nD _ (by omega) (by omega), nD _ (by omega) (by omega), nD _ (by omega) (by omega)⟩) (Or.inl ⟨rfl, rfl, nD _ (by omega) (by omega), nD _ (by omega) (by omega), nE _ (by omega)⟩) (Or.inl ⟨rfl, rfl, rfl, nD _ (by omega) (by omega), nD _ (by omega) (by omega), nE _ (by omega), nE _ (by omega)⟩) (Or.inl ⟨rfl, nD _ (by omega) (by omega), nD _ (by omega) (by omega)⟩) (Or.inr ⟨?_, ?_, h82, h83, ?_⟩) (Or.inl ⟨rfl, nE _ (by omega), id, id⟩) (Or.inl ⟨rfl, nE _ (by omega), nD _ (by omega) (by omega)⟩) h.2.2.2.2.2.2.2.2.2
  · rw [ha.2.1 79 (nD _ (by omega) (by omega))]; exact h7.1
  · rw [ha.2.1 80 (nD _ (by omega) (by omega))]; exact h7.2.1
  · rw [ha.2.1 84 (nD _ (by omega) (by omega)), ha.2.1 85 (nD _ (by omega) (by omega)), ha.2.1 86 (nD _ (by omega) (by omega))]; exact h7.2.2.2.2
theorem R_fault {x : Int32} (h : RR S m) (K : okR (o_fault S x) m Q) : pm_G (d + 5) mX7_fault 0 [some (.ref 65), some (.int x)] [] m Q := by
  have h7 := h.2.2.2.2.2.2.1
  have hT := h.2.1
  refine gX7_fault_0 (c7_isText (fun t hi ht hx => ?_) (fun hi => ?_))
  · simp only [o_fault, hi] at K
    have hcl : x.toNatClampNeg = t := by rw [hx]; exact ni_cl (by omega)
    have g := hT.2.2 t ht
    have hin : vp_in x (m.2.1 69).length := by rw [hT.2.1, hx]; exact ni_in ht (by omega)
    cases ho : sT S t with
    | none =>
      rw [ho] at g K
      have g : (m.2.1 69).getD t 0 = -1 := g
      refine gX7_fault_4 (fun _ => hin) ?_ ?_ (fun z => absurd z (by decide)) <;> rw [hcl, g]
      · intro _ z; exact absurd z (by decide)
      · intro _ _
        exact c7_find (f := 1) (by omega) (by omega) h (fun m' g1 g2 => gX7_fault_23 (K m' g1 g2))
    | some l =>
      rw [ho] at g K
      have gl := g.2.1
      refine gX7_fault_4 (fun _ => hin) ?_ ?_ (fun z => absurd z (by decide)) <;> rw [hcl, g.1]
      · intro _ _
        rw [hx]
        refine c7_readAll g hT.1 hT.2.1 ht h7.2.2.1 h7.2.2.2.1 (fun m' a e => gX7_fault_31 (K m' (RR_rd h a e.1 e.2.1) (agR_ag a (fun c z => by unfold rdD at z; omega))))
      · intro _ z; exact absurd (nI_pos' (n := l.length) (by omega)) z
  · simp only [o_fault, hi] at K
    exact gX7_fault_4 (fun z => absurd rfl z) (fun z => absurd rfl z) (fun z => absurd rfl z) (fun _ => K m h (ag_refl _ _))
end READR2

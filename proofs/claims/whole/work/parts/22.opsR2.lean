theorem grid_new {R : Nat → Option (List Int32)} {cap nr r : Nat} {o : Option (List Int32)} {sz row sz' row' : List Int32} (h : ∀ q, q < nr → gridM (R q) cap q sz row) (same : ∀ q, q < nr → q ≠ r → sz'.getD q 0 = sz.getD q 0 ∧ ∀ i, i < cap → row'.getD (cap * q + i) 0 = row.getD (cap * q + i) 0) (new : gridM o cap r sz' row') : ∀ q, q < nr → gridM (upo R r o q) cap q sz' row' := by
  intro q hq
  unfold upo
  by_cases e : q = r
  · rw [if_pos e, e]; exact new
  · rw [if_neg e]
    have g := h q hq
    obtain ⟨s1, s2⟩ := same q hq e
    cases ho : R q with
    | none => rw [ho] at g; show sz'.getD q 0 = -1; rw [s1]; exact g
    | some l =>
      rw [ho] at g
      refine ⟨by rw [s1]; exact g.1, g.2.1, fun i hi => ?_⟩
      rw [s2 i (Nat.lt_of_lt_of_le hi g.2.1)]; exact g.2.2 i hi
theorem pp {cap q r i j : Nat} (hi : i < cap) (hj : j < cap) (h : cap * q + i = cap * r + j) : q = r ∧ i = j := by
  have e1 : (cap * q + i) / cap = q := by rw [Nat.mul_add_div (by omega), Nat.div_eq_of_lt hi]; omega
  have e2 : (cap * r + j) / cap = r := by rw [Nat.mul_add_div (by omega), Nat.div_eq_of_lt hj]; omega
  have e : q = r := by rw [← e1, h, e2]
  subst e
  exact ⟨rfl, by omega⟩
section OPR2
variable {d : Nat} {m : pmMem} {Q : Option Value → pmMem → Prop} {S : Sg}
theorem fill_row {r : Nat} {x y : Int32} (hr : r < 6) (hx : x = nI r) : ∀ (t k : Nat) (m : pmMem), k + t = 40 → (m.2.1 66).length = 240 → (∀ m', agR (fun c => c = 66) (fun _ => False) (fun _ => False) m m' → (m'.2.1 66).length = 240 → (∀ j, (m'.2.1 66).getD j 0 = if 40 * r + k ≤ j ∧ j < 40 * r + 40 then 0 else (m.2.1 66).getD j 0) → Q (some (.int y)) m') → pm_G d mX7_row 34 [some (.ref 65), some (.int x), some (.int y), some (.int (nI k))] [] m Q := by
  intro t
  induction t with
  | zero =>
    intro k m hk hl K
    have e : ((40 : Int32) ≤ nI k) ↔ 40 ≤ k := ni_le (a := 40) (by omega) (by omega)
    refine gX7_row_34 ?_ ?_ ?_ <;> simp only [e]
    · intro z; omega
    · intro _
      exact K m (agR_refl _ _ _ _) hl (fun j => by rw [if_neg (by omega)])
    · intro z; omega
  | succ t ih =>
    intro k m hk hl K
    have e : ((40 : Int32) ≤ nI k) ↔ 40 ≤ k := ni_le (a := 40) (by omega) (by omega)
    have ix : ((40 : Int32) * x) + nI k = nI (40 * r + k) := by rw [hx]; exact g_ix (cap := 40) (by omega) (by omega) (by omega)
    refine gX7_row_34 ?_ ?_ ?_ <;> simp only [e]
    · intro _; rw [ix, hl]; exact ni_in (by omega) (by omega)
    · intro z; omega
    · intro _ m1 e1
      rw [ix, ni_cl (by omega)] at e1
      have l1 : (m1.2.1 66).length = 240 := by rw [e1, pm_rA, if_pos rfl, List.length_set]; exact hl
      have a1 : agR (fun c => c = 66) (fun _ => False) (fun _ => False) m m1 := by rw [e1]; exact agR_A (agR_refl _ _ _ _) rfl
      rw [show nI k + 1 = nI (k + 1) from nI_add k 1]
      refine ih (k + 1) m1 (by omega) l1 (fun m' a b c => K m' (agR_trans a1 a) b (fun j => ?_))
      rw [c j, e1, pm_rA, if_pos rfl, getD_set (by rw [hl]; omega)]
      by_cases z : j = 40 * r + k
      · rw [if_neg (by omega), if_pos z, if_pos (by omega)]
      · rw [if_neg z]
        by_cases w : 40 * r + (k + 1) ≤ j ∧ j < 40 * r + 40
        · rw [if_pos w, if_pos (by omega)]
        · rw [if_neg w, if_neg (by omega)]
theorem R_row {x n : Int32} {l3 : Option Value} (h : RR S m) (K : okR (o_row S x n) m Q) : pm_G (d + 3) mX7_row 0 [some (.ref 65), some (.int x), some (.int n), l3] [] m Q := by
  have e40 : (n ≤ 40) ↔ n.toInt ≤ 40 := i32_le' (n := 40) (by omega)
  have e0 : (0 ≤ n) ↔ 0 ≤ n.toInt := i32_le (n := 0) (by omega)
  obtain ⟨q1, q2, q3⟩ := h.1
  refine gX7_row_0 (c7_isRow (fun r hi hr hx => ?_) (fun hi => ?_))
  · simp only [o_row, hi] at K
    refine gX7_row_4 (fun _ _ _ => ?_) (fun z => absurd z (by decide)) ?_ ?_ ?_ <;> try simp only [e40, e0]
    · rw [hx, q2]; exact ni_in hr (by omega)
    · intro _ h1 h2 m1 e1
      rw [if_neg (by omega), if_neg (by omega)] at K
      obtain ⟨k, -, hk, hn⟩ := idx_some (n := 40 + 1) (by omega) (x := n) (by omega) (by omega)
      have hk2 : n.toInt.toNat = k := by rw [hn, nI_toInt (by omega)]; omega
      rw [hk2] at K
      rw [show x.toNatClampNeg = r by rw [hx]; exact ni_cl (by omega)] at e1
      have a1 : agR (fun c => c = 66 ∨ c = 67) (fun _ => False) (fun _ => False) m m1 := by rw [e1]; exact agR_A (agR_refl _ _ _ _) (Or.inr rfl)
      refine fill_row hr hx 40 0 m1 (by omega) (by rw [e1, pm_rA, if_neg (by omega)]; exact q1) (fun m' a b c => ?_)
      have a2 := agR_trans a1 (agR_mono a (fun c z => Or.inl z) (fun _ => id) (fun _ => id))
      have eB : m'.2.1 67 = (m.2.1 67).set r n := by rw [a.2.1 67 (by omega), e1, pm_rA, if_pos rfl]
      have eA : m1.2.1 66 = m.2.1 66 := by rw [e1, pm_rA, if_neg (by omega)]
      rw [eA] at c
      refine K m' (RR_rows h a2 ⟨b, by rw [eB, List.length_set]; exact q2, ?_⟩) (agR_ag a2 (by omega))
      refine grid_new q3 (fun q hq hqr => ⟨?_, fun i hi => ?_⟩) ⟨?_, ?_, fun i hi => ?_⟩
      · rw [eB, getD_set (by omega), if_neg hqr]
      · rw [c, if_neg (by omega)]
      · rw [eB, getD_set (by omega), if_pos rfl, List.length_replicate]; exact hn
      · rw [List.length_replicate]; omega
      · rw [List.length_replicate] at hi
        rw [c, if_pos (by omega), getD_repl hi]
    · intro _ h1 h2
      rw [if_neg (by omega), if_pos (by omega)] at K
      exact c7_find (f := 5) (by omega) (by omega) h (fun m' g1 g2 => gX7_row_24 (K m' g1 g2))
    · intro _ h1
      rw [if_pos (by omega)] at K
      exact K m h (ag_refl _ _)
  · simp only [o_row, hi] at K
    exact gX7_row_4 (fun z => absurd rfl z) (fun _ => K m h (ag_refl _ _)) (fun z => absurd rfl z) (fun z => absurd rfl z) (fun z => absurd rfl z)
theorem fill_text {r : Nat} {x y : Int32} (hr : r < 4) (hx : x = nI r) : ∀ (t k : Nat) (m : pmMem), k + t = 60 → (m.2.1 68).length = 240 → (∀ m', agR (fun c => c = 68) (fun _ => False) (fun _ => False) m m' → (m'.2.1 68).length = 240 → (∀ j, (m'.2.1 68).getD j 0 = if 60 * r + k ≤ j ∧ j < 60 * r + 60 then 32 else (m.2.1 68).getD j 0) → Q (some (.int y)) m') → pm_G d mX7_text 34 [some (.ref 65), some (.int x), some (.int y), some (.int (nI k))] [] m Q := by
  intro t
  induction t with
  | zero =>
    intro k m hk hl K
    have e : ((60 : Int32) ≤ nI k) ↔ 60 ≤ k := ni_le (a := 60) (by omega) (by omega)
    refine gX7_text_34 ?_ ?_ ?_ <;> simp only [e]
    · intro z; omega
    · intro _
      exact K m (agR_refl _ _ _ _) hl (fun j => by rw [if_neg (by omega)])
    · intro z; omega
  | succ t ih =>
    intro k m hk hl K
    have e : ((60 : Int32) ≤ nI k) ↔ 60 ≤ k := ni_le (a := 60) (by omega) (by omega)
    have ix : ((60 : Int32) * x) + nI k = nI (60 * r + k) := by rw [hx]; exact g_ix (cap := 60) (by omega) (by omega) (by omega)
    refine gX7_text_34 ?_ ?_ ?_ <;> simp only [e]
    · intro _; rw [ix, hl]; exact ni_in (by omega) (by omega)
    · intro z; omega
    · intro _ m1 e1
      rw [ix, ni_cl (by omega)] at e1
      have l1 : (m1.2.1 68).length = 240 := by rw [e1, pm_rA, if_pos rfl, List.length_set]; exact hl
      have a1 : agR (fun c => c = 68) (fun _ => False) (fun _ => False) m m1 := by rw [e1]; exact agR_A (agR_refl _ _ _ _) rfl
      rw [show nI k + 1 = nI (k + 1) from nI_add k 1]
      refine ih (k + 1) m1 (by omega) l1 (fun m' a b c => K m' (agR_trans a1 a) b (fun j => ?_))
      rw [c j, e1, pm_rA, if_pos rfl, getD_set (by rw [hl]; omega)]
      by_cases z : j = 60 * r + k
      · rw [if_neg (by omega), if_pos z, if_pos (by omega)]
      · rw [if_neg z]
        by_cases w : 60 * r + (k + 1) ≤ j ∧ j < 60 * r + 60
        · rw [if_pos w, if_pos (by omega)]
        · rw [if_neg w, if_neg (by omega)]
theorem R_text {x n : Int32} {l3 : Option Value} (h : RR S m) (K : okR (o_text S x n) m Q) : pm_G (d + 3) mX7_text 0 [some (.ref 65), some (.int x), some (.int n), l3] [] m Q := by
  have e40 : (n ≤ 60) ↔ n.toInt ≤ 60 := i32_le' (n := 60) (by omega)
  have e0 : (0 ≤ n) ↔ 0 ≤ n.toInt := i32_le (n := 0) (by omega)
  obtain ⟨q1, q2, q3⟩ := h.2.1
  refine gX7_text_0 (c7_isText (fun r hi hr hx => ?_) (fun hi => ?_))
  · simp only [o_text, hi] at K
    refine gX7_text_4 (fun _ _ _ => ?_) (fun z => absurd z (by decide)) ?_ ?_ ?_ <;> try simp only [e40, e0]
    · rw [hx, q2]; exact ni_in hr (by omega)
    · intro _ h1 h2 m1 e1
      rw [if_neg (by omega), if_neg (by omega)] at K
      obtain ⟨k, -, hk, hn⟩ := idx_some (n := 60 + 1) (by omega) (x := n) (by omega) (by omega)
      have hk2 : n.toInt.toNat = k := by rw [hn, nI_toInt (by omega)]; omega
      rw [hk2] at K
      rw [show x.toNatClampNeg = r by rw [hx]; exact ni_cl (by omega)] at e1
      have a1 : agR (fun c => c = 68 ∨ c = 69) (fun _ => False) (fun _ => False) m m1 := by rw [e1]; exact agR_A (agR_refl _ _ _ _) (Or.inr rfl)
      refine fill_text hr hx 60 0 m1 (by omega) (by rw [e1, pm_rA, if_neg (by omega)]; exact q1) (fun m' a b c => ?_)
      have a2 := agR_trans a1 (agR_mono a (fun c z => Or.inl z) (fun _ => id) (fun _ => id))
      have eB : m'.2.1 69 = (m.2.1 69).set r n := by rw [a.2.1 69 (by omega), e1, pm_rA, if_pos rfl]
      have eA : m1.2.1 68 = m.2.1 68 := by rw [e1, pm_rA, if_neg (by omega)]
      rw [eA] at c
      refine K m' (RR_texts h a2 ⟨b, by rw [eB, List.length_set]; exact q2, ?_⟩) (agR_ag a2 (by omega))
      refine grid_new q3 (fun q hq hqr => ⟨?_, fun i hi => ?_⟩) ⟨?_, ?_, fun i hi => ?_⟩
      · rw [eB, getD_set (by omega), if_neg hqr]
      · rw [c, if_neg (by omega)]
      · rw [eB, getD_set (by omega), if_pos rfl, List.length_replicate]; exact hn
      · rw [List.length_replicate]; omega
      · rw [List.length_replicate] at hi
        rw [c, if_pos (by omega), getD_repl hi]
    · intro _ h1 h2
      rw [if_neg (by omega), if_pos (by omega)] at K
      exact c7_find (f := 5) (by omega) (by omega) h (fun m' g1 g2 => gX7_text_24 (K m' g1 g2))
    · intro _ h1
      rw [if_pos (by omega)] at K
      exact K m h (ag_refl _ _)
  · simp only [o_text, hi] at K
    exact gX7_text_4 (fun z => absurd rfl z) (fun _ => K m h (ag_refl _ _)) (fun z => absurd rfl z) (fun z => absurd rfl z) (fun z => absurd rfl z)
theorem neg1 : (-1 : Int32) = -1 := rfl
theorem R_tear {x : Int32} (h : RR S m) (K : okR (o_tear S x) m Q) : pm_G (d + 3) mX7_tear 0 [some (.ref 65), some (.int x)] [] m Q := by
  obtain ⟨q1, q2, q3⟩ := h.1
  refine gX7_tear_0 (c7_isRow (fun r hi hr hx => ?_) (fun hi => ?_))
  · simp only [o_tear, hi] at K
    have hin : vp_in x (m.2.1 67).length := by rw [hx, q2]; exact ni_in hr (by omega)
    have hcl : x.toNatClampNeg = r := by rw [hx]; exact ni_cl (by omega)
    have g := q3 r hr
    refine gX7_tear_4 (fun _ _ => hin) (fun _ => hin) ?_ ?_ (fun z => absurd z (by decide)) <;> rw [hcl]
    · intro _ h0 m1 e1
      cases ho : sR S r with
      | none =>
        rw [ho] at g
        rw [show (m.2.1 67).getD r 0 = -1 from g] at h0
        exact absurd h0 (by decide)
      | some l =>
        rw [ho] at K
        have a1 : agR (fun c => c = 66 ∨ c = 67) (fun _ => False) (fun _ => False) m m1 := by rw [e1]; exact agR_A (agR_refl _ _ _ _) (Or.inr rfl)
        have eB : m1.2.1 67 = (m.2.1 67).set r (-1) := by rw [e1, pm_rA, if_pos rfl]
        have eA : m1.2.1 66 = m.2.1 66 := by rw [e1, pm_rA, if_neg (by omega)]
        refine K m1 (RR_rows h a1 ⟨by rw [eA]; exact q1, by rw [eB, List.length_set]; exact q2, ?_⟩) (agR_ag a1 (by omega))
        refine grid_new q3 (fun q hq hqr => ⟨?_, fun i hi => ?_⟩) ?_
        · rw [eB, getD_set (by omega), if_neg hqr]
        · rw [eA]
        · show (m1.2.1 67).getD r 0 = -1
          rw [eB, getD_set (by omega), if_pos rfl]
    · intro _ h0
      cases ho : sR S r with
      | none =>
        rw [ho] at K
        exact c7_find (f := 1) (by omega) (by omega) h (fun m' g1 g2 => gX7_tear_23 (K m' g1 g2))
      | some l =>
        rw [ho] at g
        rw [g.1] at h0
        exact absurd (i0le (by have := g.2.1; omega)) h0
  · simp only [o_tear, hi] at K
    exact gX7_tear_4 (fun z => absurd rfl z) (fun z => absurd rfl z) (fun z => absurd rfl z) (fun z => absurd rfl z) (fun _ => K m h (ag_refl _ _))
theorem R_put {x i v : Int32} {l4 : Option Value} (h : RR S m) (K : okR (o_put S x i v) m Q) : pm_G (d + 3) mX7_put 0 [some (.ref 65), some (.int x), some (.int i), some (.int v), l4] [] m Q := by
  obtain ⟨q1, q2, q3⟩ := h.2.1
  refine gX7_put_0 (c7_isText (fun r hi hr hx => ?_) (fun hi => ?_))
  · simp only [o_put, hi] at K
    have hin : vp_in x (m.2.1 69).length := by rw [hx, q2]; exact ni_in hr (by omega)
    have hcl : x.toNatClampNeg = r := by rw [hx]; exact ni_cl (by omega)
    have g := q3 r hr
    refine gX7_put_4 (fun _ _ => hin) (fun _ => hin) ?_ ?_ (fun z => absurd z (by decide)) <;> rw [hcl]
    · intro _ h0
      cases ho : sT S r with
      | none =>
        rw [ho] at g
        rw [show (m.2.1 69).getD r 0 = -1 from g] at h0
        exact absurd h0 (by decide)
      | some l =>
        rw [ho] at K g
        have gl := g.2.1
        rw [g.1]
        have e := sub1 (n := l.length) (by omega)
        refine c7_in (fun h1 h2 => ?_) (fun hn => ?_)
        · rw [t64, n64_0] at h1
          rw [t64, t64, e] at h2
          obtain ⟨j, a, b, c⟩ := idx_some (n := l.length) (x := i) (by omega) (by omega) (by omega)
          simp only [a] at K
          have ix : ((60 : Int32) * x) + i = nI (60 * r + j) := by rw [hx, c]; exact g_ix (cap := 60) (by omega) (by omega) (by omega)
          have ixl : vp_in (((60 : Int32) * x) + i) (m.2.1 68).length := by rw [ix, q1]; exact ni_in (by omega) (by omega)
          refine gX7_put_39 (fun _ _ _ => ixl) (fun _ => ixl) (fun _ v1 ev m1 e1 => ?_) (fun z => absurd z (by decide))
          rw [ix, ni_cl (by omega)] at ev e1
          rw [g.2.2 j b] at ev
          rw [ev]
          have a1 : agR (fun c => c = 68 ∨ c = 69) (fun _ => False) (fun _ => False) m m1 := by rw [e1]; exact agR_A (agR_refl _ _ _ _) (Or.inl rfl)
          have eB : m1.2.1 69 = m.2.1 69 := by rw [e1, pm_rA, if_neg (by omega)]
          have eA : m1.2.1 68 = (m.2.1 68).set (60 * r + j) v.toInt8.toInt32 := by rw [e1, pm_rA, if_pos rfl]
          refine K m1 (RR_texts h a1 ⟨by rw [eA, List.length_set]; exact q1, by rw [eB]; exact q2, ?_⟩) (agR_ag a1 (by omega))
          refine grid_new q3 (fun q hq hqr => ⟨by rw [eB], fun t ht => ?_⟩) ⟨?_, ?_, fun t ht => ?_⟩
          · rw [eA, getD_set (by omega), if_neg (by omega)]
          · rw [eB, List.length_set]; exact g.1
          · rw [List.length_set]; exact gl
          · rw [List.length_set] at ht
            rw [eA, getD_set (by omega), getD_set b, g.2.2 t ht]
            by_cases z : t = j
            · rw [if_pos (by omega), if_pos z]
            · rw [if_neg (by omega), if_neg z]
        · rw [t64, n64_0, t64, e] at hn
          simp only [idx_none (n := l.length) (x := i) (by omega)] at K
          exact gX7_put_39 (fun z => absurd rfl z) (fun z => absurd rfl z) (fun z => absurd rfl z) (fun _ => c7_find (f := 2) (by omega) (by omega) h (fun m' g1 g2 => gX7_put_47 (K m' g1 g2)))
    · intro _ h0
      cases ho : sT S r with
      | none =>
        rw [ho] at K
        exact c7_find (f := 1) (by omega) (by omega) h (fun m' g1 g2 => gX7_put_23 (K m' g1 g2))
      | some l =>
        rw [ho] at g
        rw [g.1] at h0
        exact absurd (i0le (by have := g.2.1; omega)) h0
  · simp only [o_put, hi] at K
    exact gX7_put_4 (fun z => absurd rfl z) (fun z => absurd rfl z) (fun z => absurd rfl z) (fun z => absurd rfl z) (fun _ => K m h (ag_refl _ _))
theorem R_mean {x : Int32} {l2 l3 l4 : Option Value} (h : RR S m) (K : okR (o_mean S x) m Q) : pm_G (d + 3) mX7_mean 0 [some (.ref 65), some (.int x), l2, l3, l4] [] m Q := by
  obtain ⟨q1, q2, q3⟩ := h.1
  refine gX7_mean_0 (c7_isRow (fun r hi hr hx => ?_) (fun hi => ?_))
  · simp only [o_mean, hi] at K
    have hin : vp_in x (m.2.1 67).length := by rw [hx, q2]; exact ni_in hr (by omega)
    have hcl : x.toNatClampNeg = r := by rw [hx]; exact ni_cl (by omega)
    have g := q3 r hr
    cases ho : sR S r with
    | none =>
      rw [ho] at g K
      have g : (m.2.1 67).getD r 0 = -1 := g
      refine gX7_mean_4 (fun _ _ => hin) (fun _ => hin) ?_ ?_ ?_ (fun z => absurd z (by decide)) <;> rw [hcl, g]
      · intro _ h0; exact absurd h0 (by decide)
      · intro _ _ h0; exact absurd h0 (by decide)
      · intro _ _ _
        exact c7_find (f := 1) (by omega) (by omega) h (fun m' g1 g2 => gX7_mean_37 (K m' g1 g2))
    | some l =>
      rw [ho] at g K
      have gl := g.2.1
      have e1 : ((1 : Int32) ≤ nI l.length) ↔ 1 ≤ l.length := ni_le (a := 1) (by omega) (by omega)
      refine gX7_mean_4 (fun _ _ => hin) (fun _ => hin) ?_ ?_ ?_ (fun z => absurd z (by decide)) <;> rw [hcl, g.1] <;> try simp only [e1]
      · intro _ hp
        simp only [show ¬ l.length = 0 by omega, if_false] at K
        have loop : ∀ (t k : Nat) (l3 : Option Value), k + t = l.length → pm_G (d + 3) mX7_mean 43 [some (.ref 65), some (.int x), some (.long (sum64 l k)), l3, some (.int (nI k))] [] m Q := by
          intro t
          induction t with
          | zero =>
            intro k l3 hk
            have ek : (nI l.length ≤ nI k) ↔ l.length ≤ k := ni_le (by omega) (by omega)
            refine gX7_mean_43 ?_ (fun _ => hin) ?_ hin ?_ ?_ <;> rw [hcl, g.1] <;> try simp only [ek]
            · intro _
              rw [nI_l (by omega)]
              intro z
              have := (lN_eq (b := 0) (by omega) (by omega)).mp z
              omega
            · intro z; omega
            · intro _ m1 e1
              rw [e1]
              rw [show k = l.length by omega]
              exact K _ (RR_tell h) (agR_ag (agR_F (D := fun _ => False) (E := fun _ => True) (G := fun _ => False) (agR_refl _ _ _ _) trivial) (fun c z => z.elim))
            · intro z; omega
          | succ t ih =>
            intro k l3 hk
            have ek : (nI l.length ≤ nI k) ↔ l.length ≤ k := ni_le (by omega) (by omega)
            have ix : ((40 : Int32) * x) + nI k = nI (40 * r + k) := by rw [hx]; exact g_ix (cap := 40) (by omega) (by omega) (by omega)
            refine gX7_mean_43 ?_ (fun _ => hin) ?_ hin ?_ ?_ <;> rw [hcl, g.1] <;> try simp only [ek]
            · intro z; omega
            · intro _; rw [ix, q1]; exact ni_in (by omega) (by omega)
            · intro z; omega
            · intro _ v1 ev
              rw [ix, ni_cl (by omega), g.2.2 k (by omega)] at ev
              rw [ev, show nI k + 1 = nI (k + 1) from nI_add k 1]
              exact ih (k + 1) none (by omega)
        exact loop l.length 0 none (by omega)
      · intro _ hp _
        simp only [show l.length = 0 by omega, if_true] at K
        exact c7_find (f := 4) (by omega) (by omega) h (fun m' g1 g2 => gX7_mean_37 (K m' g1 g2))
      · intro _ _ h0
        exact absurd (i0le (by omega)) h0
  · simp only [o_mean, hi] at K
    exact gX7_mean_4 (fun z => absurd rfl z) (fun z => absurd rfl z) (fun z => absurd rfl z) (fun z => absurd rfl z) (fun z => absurd rfl z) (fun _ => K m h (ag_refl _ _))
end OPR2

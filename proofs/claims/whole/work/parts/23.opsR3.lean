theorem cpyF {d : Nat} {Q : Option Value → pmMem → Prop} {r t I J N : Nat} {x y i j n : Int32} (o : List Int32) (hr : r < 6) (ht : t < 6) (hx : x = nI r) (hy : y = nI t) (hi : i = nI I) (hj : j = nI J) (hn : n = nI N) (h1 : I + N ≤ 40) (h2 : J + N ≤ 40) (hc : J ≤ I) : ∀ (s k : Nat) (m : pmMem) (l7 : Option Value), k + s = N → (m.2.1 66).length = 240 → (∀ p, (m.2.1 66).getD p 0 = if 40 * t + J ≤ p ∧ p < 40 * t + J + k then o.getD (40 * r + I + (p - (40 * t + J))) 0 else o.getD p 0) → (∀ m', agR (fun c => c = 66 ∨ c = 67) (fun _ => False) (fun _ => False) m m' → (m'.2.1 66).length = 240 → m'.2.1 67 = m.2.1 67 → (∀ p, (m'.2.1 66).getD p 0 = if 40 * t + J ≤ p ∧ p < 40 * t + J + N then o.getD (40 * r + I + (p - (40 * t + J))) 0 else o.getD p 0) → Q (some (.int 1)) m') → pm_G d mX7_copy 104 [some (.ref 65), some (.int x), some (.int i), some (.int y), some (.int j), some (.int n), some (.int (nI k)), l7] [] m Q := by
  intro s
  have ec : (j ≤ i) ↔ J ≤ I := by rw [hj, hi]; exact ni_le (by omega) (by omega)
  have ixs : ∀ q, q < N → ((40 : Int32) * x) + i + nI q = nI (40 * r + I + q) := fun q hq => by rw [hx, hi, show (40 : Int32) = nI 40 from rfl, g_ix (cap := 40) (by omega) hr (by omega), nI_add]
  have ixd : ∀ q, q < N → ((40 : Int32) * y) + j + nI q = nI (40 * t + J + q) := fun q hq => by rw [hy, hj, show (40 : Int32) = nI 40 from rfl, g_ix (cap := 40) (by omega) ht (by omega), nI_add]
  have sb : ∀ k, k < N → (n - 1) - nI k = nI (N - 1 - k) := fun k hk => by
    rw [hn, show N = (N - 1) + 1 by omega, nI_pred, show N - 1 + 1 - 1 = N - 1 by omega]
    have := nI_add (N - 1 - k) k
    rw [show N - 1 - k + k = N - 1 by omega] at this
    rw [← this]; simp
  induction s with
  | zero =>
    intro k m l7 hk hl hp K
    have ek : (n ≤ nI k) ↔ N ≤ k := by rw [hn]; exact ni_le (by omega) (by omega)
    refine gX7_copy_104 ?_ ?_ ?_ ?_ ?_ ?_ ?_ <;> simp only [ek]
    · intro z; omega
    · intro z; omega
    · intro z; omega
    · intro z; omega
    · intro _
      refine K m (agR_refl _ _ _ _) hl rfl (fun p => ?_)
      rw [hp p]
      have e : (40 * t + J ≤ p ∧ p < 40 * t + J + k) ↔ (40 * t + J ≤ p ∧ p < 40 * t + J + N) := by omega
      simp only [e]
    · intro z; omega
    · intro z; omega
  | succ s ih =>
    intro k m l7 hk hl hp K
    have ek : (n ≤ nI k) ↔ N ≤ k := by rw [hn]; exact ni_le (by omega) (by omega)
    refine gX7_copy_104 ?_ ?_ ?_ ?_ ?_ ?_ ?_ <;> simp only [ek, ec]
    · intro _ z; rw [ixd k (by omega), hl]; exact ni_in (by omega) (by omega)
    · intro _ z; rw [ixs k (by omega), hl]; exact ni_in (by omega) (by omega)
    · intro _ z; rw [sb k (by omega), ixd _ (by omega), hl]; exact ni_in (by omega) (by omega)
    · intro _ z; rw [sb k (by omega), ixs _ (by omega), hl]; exact ni_in (by omega) (by omega)
    · intro z; omega
    · intro _ z m1 e1
      rw [ixd k (by omega), ixs k (by omega), ni_cl (by omega), ni_cl (by omega)] at e1
      have rd : (m.2.1 66).getD (40 * r + I + k) 0 = o.getD (40 * r + I + k) 0 := by
        rw [hp, if_neg]
        intro w
        rcases Nat.lt_trichotomy r t with c | c | c <;> omega
      rw [rd] at e1
      rw [show nI k + 1 = nI (k + 1) from nI_add k 1]
      have a1 : agR (fun c => c = 66 ∨ c = 67) (fun _ => False) (fun _ => False) m m1 := by rw [e1]; exact agR_A (agR_refl _ _ _ _) (Or.inl rfl)
      have e67 : m1.2.1 67 = m.2.1 67 := by rw [e1, pm_rA, if_neg (by omega)]
      have l1 : (m1.2.1 66).length = 240 := by rw [e1, pm_rA, if_pos rfl, List.length_set]; exact hl
      refine ih (k + 1) m1 _ (by omega) l1 (fun p => ?_) (fun m' a b c dd => K m' (agR_trans a1 a) b (c.trans e67) dd)
      rw [e1, pm_rA, if_pos rfl, getD_set (by rw [hl]; omega), hp p]
      by_cases w : p = 40 * t + J + k
      · rw [if_pos w, if_pos (by omega), w, show 40 * r + I + (40 * t + J + k - (40 * t + J)) = 40 * r + I + k by omega]
      · rw [if_neg w]
        have e : (40 * t + J ≤ p ∧ p < 40 * t + J + k) ↔ (40 * t + J ≤ p ∧ p < 40 * t + J + (k + 1)) := by omega
        simp only [e]
    · intro _ z; omega
theorem cpyB {d : Nat} {Q : Option Value → pmMem → Prop} {r t I J N : Nat} {x y i j n : Int32} (o : List Int32) (hr : r < 6) (ht : t < 6) (hx : x = nI r) (hy : y = nI t) (hi : i = nI I) (hj : j = nI J) (hn : n = nI N) (h1 : I + N ≤ 40) (h2 : J + N ≤ 40) (hc : ¬ J ≤ I) : ∀ (s k : Nat) (m : pmMem) (l7 : Option Value), k + s = N → (m.2.1 66).length = 240 → (∀ p, (m.2.1 66).getD p 0 = if 40 * t + J + (N - k) ≤ p ∧ p < 40 * t + J + N then o.getD (40 * r + I + (p - (40 * t + J))) 0 else o.getD p 0) → (∀ m', agR (fun c => c = 66 ∨ c = 67) (fun _ => False) (fun _ => False) m m' → (m'.2.1 66).length = 240 → m'.2.1 67 = m.2.1 67 → (∀ p, (m'.2.1 66).getD p 0 = if 40 * t + J ≤ p ∧ p < 40 * t + J + N then o.getD (40 * r + I + (p - (40 * t + J))) 0 else o.getD p 0) → Q (some (.int 1)) m') → pm_G d mX7_copy 104 [some (.ref 65), some (.int x), some (.int i), some (.int y), some (.int j), some (.int n), some (.int (nI k)), l7] [] m Q := by
  intro s
  have ec : (j ≤ i) ↔ J ≤ I := by rw [hj, hi]; exact ni_le (by omega) (by omega)
  have ixs : ∀ q, q < N → ((40 : Int32) * x) + i + nI q = nI (40 * r + I + q) := fun q hq => by rw [hx, hi, show (40 : Int32) = nI 40 from rfl, g_ix (cap := 40) (by omega) hr (by omega), nI_add]
  have ixd : ∀ q, q < N → ((40 : Int32) * y) + j + nI q = nI (40 * t + J + q) := fun q hq => by rw [hy, hj, show (40 : Int32) = nI 40 from rfl, g_ix (cap := 40) (by omega) ht (by omega), nI_add]
  have sb : ∀ k, k < N → (n - 1) - nI k = nI (N - 1 - k) := fun k hk => by
    rw [hn, show N = (N - 1) + 1 by omega, nI_pred, show N - 1 + 1 - 1 = N - 1 by omega]
    have := nI_add (N - 1 - k) k
    rw [show N - 1 - k + k = N - 1 by omega] at this
    rw [← this]; simp
  induction s with
  | zero =>
    intro k m l7 hk hl hp K
    have ek : (n ≤ nI k) ↔ N ≤ k := by rw [hn]; exact ni_le (by omega) (by omega)
    refine gX7_copy_104 ?_ ?_ ?_ ?_ ?_ ?_ ?_ <;> simp only [ek]
    · intro z; omega
    · intro z; omega
    · intro z; omega
    · intro z; omega
    · intro _
      refine K m (agR_refl _ _ _ _) hl rfl (fun p => ?_)
      rw [hp p]
      have e : (40 * t + J + (N - k) ≤ p ∧ p < 40 * t + J + N) ↔ (40 * t + J ≤ p ∧ p < 40 * t + J + N) := by omega
      simp only [e]
    · intro z; omega
    · intro z; omega
  | succ s ih =>
    intro k m l7 hk hl hp K
    have ek : (n ≤ nI k) ↔ N ≤ k := by rw [hn]; exact ni_le (by omega) (by omega)
    refine gX7_copy_104 ?_ ?_ ?_ ?_ ?_ ?_ ?_ <;> simp only [ek, ec]
    · intro _ z; rw [ixd k (by omega), hl]; exact ni_in (by omega) (by omega)
    · intro _ z; rw [ixs k (by omega), hl]; exact ni_in (by omega) (by omega)
    · intro _ z; rw [sb k (by omega), ixd _ (by omega), hl]; exact ni_in (by omega) (by omega)
    · intro _ z; rw [sb k (by omega), ixs _ (by omega), hl]; exact ni_in (by omega) (by omega)
    · intro z; omega
    · intro _ z; omega
    · intro _ z m1 e1
      rw [sb k (by omega), ixd _ (by omega), ixs _ (by omega), ni_cl (by omega), ni_cl (by omega)] at e1
      have rd : (m.2.1 66).getD (40 * r + I + (N - 1 - k)) 0 = o.getD (40 * r + I + (N - 1 - k)) 0 := by
        rw [hp, if_neg]
        intro w
        rcases Nat.lt_trichotomy r t with c | c | c <;> omega
      rw [rd] at e1
      rw [show nI k + 1 = nI (k + 1) from nI_add k 1]
      have a1 : agR (fun c => c = 66 ∨ c = 67) (fun _ => False) (fun _ => False) m m1 := by rw [e1]; exact agR_A (agR_refl _ _ _ _) (Or.inl rfl)
      have e67 : m1.2.1 67 = m.2.1 67 := by rw [e1, pm_rA, if_neg (by omega)]
      have l1 : (m1.2.1 66).length = 240 := by rw [e1, pm_rA, if_pos rfl, List.length_set]; exact hl
      refine ih (k + 1) m1 _ (by omega) l1 (fun p => ?_) (fun m' a b c dd => K m' (agR_trans a1 a) b (c.trans e67) dd)
      rw [e1, pm_rA, if_pos rfl, getD_set (by rw [hl]; omega), hp p]
      by_cases w : p = 40 * t + J + (N - 1 - k)
      · rw [if_pos w, if_pos (by omega), w, show 40 * r + I + (40 * t + J + (N - 1 - k) - (40 * t + J)) = 40 * r + I + (N - 1 - k) by omega]
      · rw [if_neg w]
        have e : (40 * t + J + (N - k) ≤ p ∧ p < 40 * t + J + N) ↔ (40 * t + J + (N - (k + 1)) ≤ p ∧ p < 40 * t + J + N) := by omega
        simp only [e]
theorem s64 (a b : Int32) : (a.toInt64 + b.toInt64).toInt = a.toInt + b.toInt := by
  have h1 := Int32.le_toInt a
  have h2 := Int32.toInt_lt a
  have h3 := Int32.le_toInt b
  have h4 := Int32.toInt_lt b
  rw [Int64.toInt_add, t64, t64]
  exact Int.bmod_eq_of_le (by omega) (by omega)
theorem nI_of0 {x : Int32} (h : 0 ≤ x.toInt) (b : x.toInt < 1000) : x = nI x.toNatClampNeg ∧ (x.toNatClampNeg : Int) = x.toInt := by
  obtain ⟨k, -, hk, hn⟩ := idx_some (n := 1000) (by omega) (x := x) h (by omega)
  rw [hn, ni_cl (by omega), nI_toInt (by omega)]
  exact ⟨rfl, rfl⟩
section OPR3
variable {d : Nat} {m : pmMem} {Q : Option Value → pmMem → Prop} {S : Sg}
theorem R_copy {x i y j n : Int32} {l6 l7 : Option Value} (h : RR S m) (K : okR (o_copy S x i y j n) m Q) : pm_G (d + 3) mX7_copy 0 [some (.ref 65), some (.int x), some (.int i), some (.int y), some (.int j), some (.int n), l6, l7] [] m Q := by
  obtain ⟨q1, q2, q3⟩ := h.1
  have e0 : (0 ≤ n) ↔ 0 ≤ n.toInt := i32_le (n := 0) (by omega)
  refine gX7_copy_0 (c7_isRow (fun r hi hr hx => ?_) (fun hi => ?_))
  · simp only [o_copy, hi] at K
    refine gX7_copy_4 (fun z => absurd z (by decide)) (fun _ => c7_isRow (fun t hi2 ht hy => ?_) (fun hi2 => ?_))
    · simp only [hi2] at K
      have hin1 : vp_in x (m.2.1 67).length := by rw [hx, q2]; exact ni_in hr (by omega)
      have hin2 : vp_in y (m.2.1 67).length := by rw [hy, q2]; exact ni_in ht (by omega)
      have hc1 : x.toNatClampNeg = r := by rw [hx]; exact ni_cl (by omega)
      have hc2 : y.toNatClampNeg = t := by rw [hy]; exact ni_cl (by omega)
      have g1 := q3 r hr
      have g2 := q3 t ht
      have F5 : n.toInt < 0 → pm_G (d + 2) mX7_find 0 [some (.ref 65), some (.int 5)] [] m (fun r m' => pm_G (d + 3) mX7_copy 26 [some (.ref 65), some (.int x), some (.int i), some (.int y), some (.int j), some (.int n), l6, l7] (pm_psh r []) m' Q) := by
        intro hn
        rw [if_pos hn] at K
        exact c7_find (f := 5) (by omega) (by omega) h (fun m' g1 g2 => gX7_copy_26 (K m' g1 g2))
      by_cases hn : n.toInt < 0
      · refine gX7_copy_11 ?_ ?_ ?_ ?_ ?_ ?_ ?_ ?_ ?_ ?_ ?_ ?_ (fun z => absurd z (by decide)) <;> try simp only [hc1, hc2]
        all_goals simp only [e0]
        all_goals first
          | (intro _ z; exact absurd z (by omega))
          | exact fun _ _ => F5 hn
      rw [if_neg hn] at K
      clear F5
      cases ho : sR S r with
      | none =>
        rw [ho] at g1 K
        have g1 : (m.2.1 67).getD r 0 = -1 := g1
        have F1 : pm_G (d + 2) mX7_find 0 [some (.ref 65), some (.int 1)] [] m (fun r m' => pm_G (d + 3) mX7_copy 50 [some (.ref 65), some (.int x), some (.int i), some (.int y), some (.int j), some (.int n), l6, l7] (pm_psh r []) m' Q) := c7_find (f := 1) (by omega) (by omega) h (fun m' g1 g2 => gX7_copy_50 (K m' g1 g2))
        refine gX7_copy_11 ?_ ?_ ?_ ?_ ?_ ?_ ?_ ?_ ?_ ?_ ?_ ?_ (fun z => absurd z (by decide)) <;> try simp only [hc1, hc2, g1]
        all_goals first
          | exact fun _ _ => hin1
          | exact fun _ _ _ => F1
          | (intro _ _ z; exact absurd (show (-1 : Int32) < 0 by decide) z)
          | (intro _ z; exact absurd (e0.mpr (by omega)) z)
      | some l =>
        rw [ho] at g1 K
        have gl := g1.2.1
        have l0 : ¬ nI l.length < 0 := nI_pos (by omega)
        cases ho2 : sR S t with
        | none =>
          rw [ho2] at g2
          simp only [ho2] at K
          have g2 : (m.2.1 67).getD t 0 = -1 := g2
          have F1 : pm_G (d + 2) mX7_find 0 [some (.ref 65), some (.int 1)] [] m (fun r m' => pm_G (d + 3) mX7_copy 50 [some (.ref 65), some (.int x), some (.int i), some (.int y), some (.int j), some (.int n), l6, l7] (pm_psh r []) m' Q) := c7_find (f := 1) (by omega) (by omega) h (fun m' g1 g2 => gX7_copy_50 (K m' g1 g2))
          refine gX7_copy_11 ?_ ?_ ?_ ?_ ?_ ?_ ?_ ?_ ?_ ?_ ?_ ?_ (fun z => absurd z (by decide)) <;> try simp only [hc1, hc2, g1.1, g2]
          all_goals first
            | exact fun _ _ => hin1
            | exact fun _ _ _ => hin2
            | exact fun _ _ _ _ => F1
            | (intro _ _ _ z; exact absurd z (by decide))
            | (intro _ _ z; exact absurd z l0)
            | (intro _ z; exact absurd (e0.mpr (by omega)) z)
        | some k =>
          rw [ho2] at g2
          simp only [ho2] at K
          have gk := g2.2.1
          have k0 : (0 : Int32) ≤ nI k.length := i0le (by omega)
          have F2 : ¬ (fitR l i n ∧ fitR k j n) → pm_G (d + 2) mX7_find 0 [some (.ref 65), some (.int 2)] [] m (fun r m' => pm_G (d + 3) mX7_copy 100 [some (.ref 65), some (.int x), some (.int i), some (.int y), some (.int j), some (.int n), l6, l7] (pm_psh r []) m' Q) := by
            intro hf
            rw [if_neg hf] at K
            exact c7_find (f := 2) (by omega) (by omega) h (fun m' g1 g2 => gX7_copy_100 (K m' g1 g2))
          refine gX7_copy_11 ?_ ?_ ?_ ?_ ?_ ?_ ?_ ?_ ?_ ?_ ?_ ?_ (fun z => absurd z (by decide)) <;> try simp only [hc1, hc2, g1.1, g2.1]
          all_goals try simp only [i32_neg, Int64.lt_iff_toInt_lt, Int64.le_iff_toInt_le, s64, t64, nI_toInt (show l.length < 2147483648 by omega), nI_toInt (show k.length < 2147483648 by omega)]
          · exact fun _ _ _ _ _ _ _ => hin2
          · exact fun _ _ _ _ _ _ => hin1
          · exact fun _ _ _ => hin2
          · exact fun _ _ => hin1
          · intro _ _ z; omega
          · intro _ _ _ _ z; exact F2 (fun w => by have := w.1.1; omega)
          · intro _ _ _ _ _ z; exact F2 (fun w => by have := w.2.1; omega)
          · intro _ _ _ _ _ _ z; exact F2 (fun w => by have := w.1.2.2; omega)
          · intro _ _ _ _ z1 z2 z3 z4
            rw [if_pos ⟨⟨by omega, by omega, by omega⟩, ⟨by omega, by omega, by omega⟩⟩] at K
            obtain ⟨hi, hi'⟩ := nI_of0 (x := i) (by omega) (by omega)
            obtain ⟨hj, hj'⟩ := nI_of0 (x := j) (by omega) (by omega)
            obtain ⟨hm, hm'⟩ := nI_of0 (x := n) (by omega) (by omega)
            generalize i.toNatClampNeg = I at hi hi' K
            generalize j.toNatClampNeg = J at hj hj' K
            generalize n.toNatClampNeg = N at hm hm' K
            have fin : ∀ m', agR (fun c => c = 66 ∨ c = 67) (fun _ => False) (fun _ => False) m m' → (m'.2.1 66).length = 240 → m'.2.1 67 = m.2.1 67 → (∀ p, (m'.2.1 66).getD p 0 = if 40 * t + J ≤ p ∧ p < 40 * t + J + N then (m.2.1 66).getD (40 * r + I + (p - (40 * t + J))) 0 else (m.2.1 66).getD p 0) → Q (some (.int 1)) m' := by
              intro m' a b c dd
              refine K m' (RR_rows h a ⟨b, by rw [c]; exact q2, ?_⟩) (agR_ag a (by omega))
              have len : (pm_cpy l k I J N).length = k.length := pm_cpy_len (by omega) (by omega)
              refine grid_new q3 (fun q hq hqr => ⟨by rw [c], fun s hs => ?_⟩) ⟨?_, ?_, fun s hs => ?_⟩
              · rw [dd, if_neg (by omega)]
              · rw [c, len]; exact g2.1
              · rw [len]; exact gk
              · rw [len] at hs
                have cg := congrFun (pm_cpy_get (f := l) (g := k) (sp := I) (dp := J) (n := N) (by omega) (by omega)) s
                have cg : (pm_cpy l k I J N).getD s 0 = if J ≤ s ∧ s < J + N then l.getD (I + (s - J)) 0 else k.getD s 0 := cg
                rw [cg, dd]
                by_cases w : J ≤ s ∧ s < J + N
                · rw [if_pos w, if_pos (by omega), show 40 * r + I + (40 * t + s - (40 * t + J)) = 40 * r + (I + (s - J)) by omega]
                  exact g1.2.2 _ (by omega)
                · rw [if_neg w, if_neg (by omega)]
                  exact g2.2.2 s hs
            by_cases w : J ≤ I
            · exact cpyF (m.2.1 66) hr ht hx hy hi hj hm (by omega) (by omega) w N 0 m l7 (by omega) q1 (fun p => by rw [if_neg (by omega)]) fin
            · exact cpyB (m.2.1 66) hr ht hx hy hi hj hm (by omega) (by omega) w N 0 m l7 (by omega) q1 (fun p => by rw [if_neg (by omega)]) fin
          · intro _ _ _ _ _ _ _ z; exact F2 (fun w => by have := w.2.2.2; omega)
          · intro _ _ _ z; exact absurd k0 z
          · intro _ z; exact absurd (e0.mpr (by omega)) z
    · simp only [hi2] at K
      exact gX7_copy_11 (fun z => absurd rfl z) (fun z => absurd rfl z) (fun z => absurd rfl z) (fun z => absurd rfl z) (fun z => absurd rfl z) (fun z => absurd rfl z) (fun z => absurd rfl z) (fun z => absurd rfl z) (fun z => absurd rfl z) (fun z => absurd rfl z) (fun z => absurd rfl z) (fun z => absurd rfl z) (fun _ => K m h (ag_refl _ _))
  · simp only [o_copy, hi] at K
    exact gX7_copy_4 (fun _ => K m h (ag_refl _ _)) (fun z => absurd rfl z)
end OPR3

theorem cntB_lim {q : Nat → Bool} {n : Nat} : ∀ k, cntB (fun i => decide (i < n) && q i) (n + k) = cntB q n
  | 0 => cntB_congr n (fun j hj => by simp [hj])
  | k + 1 => by
    show cntB _ (n + k) + (if (decide (n + k < n) && q (n + k)) then 1 else 0) = _
    rw [cntB_lim k]; simp; intro z; omega
def ctP (S : Sg) (k i : Nat) : Bool := if k = 6 then decide (i < (sL S).1) && isBa ((sL S).2 i).1 else if k = 7 then decide (i < (sL S).1) && isWo ((sL S).2 i).1 else if k = 8 then (sR S i).isSome else if k = 9 then decide (i < 4) && (sT S i).isSome else decide (i < 3) && (sK S i).isSome
section COUNTR
variable {d : Nat} {m : pmMem} {Q : Option Value → pmMem → Prop} {S : Sg} {L : Ld} {s : Cs}
theorem sz_neg {o : Option (List Int32)} {cap r : Nat} {sz row : List Int32} (hc : cap < 1000) (h : gridM o cap r sz row) : sz.getD r 0 < 0 ↔ o.isSome = false := by
  cases o with
  | none =>
    have h : sz.getD r 0 = -1 := h
    rw [h]; exact ⟨fun _ => rfl, fun _ => by decide⟩
  | some l =>
    rw [h.1]
    exact ⟨fun z => absurd z (nI_pos (by have := h.2.1; omega)), fun z => by cases z⟩
theorem c7_counted {k : Nat} {l2 l3 l4 : Option Value} (hk : 6 ≤ k) (hk2 : k < 11) (h : RR S m) (K : Q (some (.int (nI (cntB (ctP S k) 6)))) m) : pm_G (d + 1) mX7_counted 0 [some (.ref 65), some (.int (nI k)), l2, l3, l4] [] m Q := by
  have hL := h.2.2.1
  have hL6 := hL.2.1
  obtain ⟨r1, r2, r3⟩ := h.1
  obtain ⟨t1, t2, t3⟩ := h.2.1
  have hK := h.2.2.2.2.2.1
  have loop : ∀ (t i : Nat) (l4 : Option Value), i + t = 6 → pm_G (d + 1) mX7_counted 4 [some (.ref 65), some (.int (nI k)), some (.int (nI (cntB (ctP S k) i))), some (.int (nI i)), l4] [] m Q := by
    intro t
    induction t with
    | zero =>
      intro i l4 hi
      have hin : i = 6 := by omega
      subst hin
      have le : (6 : Int32) ≤ nI 6 := by decide
      exact gX7_counted_4 (fun z => absurd le z) (fun z => absurd le z) (fun z => absurd le z) (fun z => absurd le z) (fun z => absurd le z) (fun _ => K) (fun z => absurd le z) (fun z => absurd le z) (fun z => absurd le z) (fun z => absurd le z) (fun z => absurd le z) (fun z => absurd le z) (fun z => absurd le z) (fun z => absurd le z) (fun z => absurd le z) (fun z => absurd le z) (fun z => absurd le z) (fun z => absurd le z)
    | succ t ih =>
      intro i l4 hi
      have n6 : ¬ (6 : Int32) ≤ nI i := by
        intro z
        have := (ni_le (a := 6) (by omega) (by omega)).mp z
        omega
      have nxt : ∀ l4, ctP S k i = true → pm_G (d + 1) mX7_counted 4 [some (.ref 65), some (.int (nI k)), some (.int (nI (cntB (ctP S k) i) + 1)), some (.int (nI i + 1)), l4] [] m Q := by
        intro l4 hp
        have nx := ih (i + 1) l4 (by omega)
        rw [cntB_t hp] at nx
        rw [nI_1, nI_1]; exact nx
      have nxf : ∀ l4, ctP S k i = false → pm_G (d + 1) mX7_counted 4 [some (.ref 65), some (.int (nI k)), some (.int (nI (cntB (ctP S k) i) + 0)), some (.int (nI i + 1)), l4] [] m Q := by
        intro l4 hp
        have nx := ih (i + 1) l4 (by omega)
        rw [cntB_f hp] at nx
        rw [nI_1, i32_add0]; exact nx
      have eL : (m.1 65 4 ≤ nI i) ↔ (sL S).1 ≤ i := by rw [hL.1]; exact ni_le (by omega) (by omega)
      have e3 : ((3 : Int32) ≤ nI i) ↔ 3 ≤ i := ni_le (a := 3) (by omega) (by omega)
      have e4 : ((4 : Int32) ≤ nI i) ↔ 4 ≤ i := ni_le (a := 4) (by omega) (by omega)
      have hcl : (nI i).toNatClampNeg = i := ni_cl (by omega)
      have ks : k = 6 ∨ k = 7 ∨ k = 8 ∨ k = 9 ∨ k = 10 := by omega
      rcases ks with e | e | e | e | e <;> subst e
      · refine gX7_counted_4 (fun _ z => absurd rfl z) (fun _ z => absurd rfl z) (fun _ z => absurd rfl z) (fun _ z => absurd rfl z) (fun _ _ _ => by rw [hL.2.2.1]; exact ni_in (by omega) (by omega)) (fun z => absurd z n6) (fun _ z => absurd rfl z) (fun _ z => absurd rfl z) (fun _ z => absurd rfl z) (fun _ z => absurd rfl z) (fun _ z => absurd rfl z) (fun _ z => absurd rfl z) (fun _ z => absurd rfl z) (fun _ z => absurd rfl z) (fun _ z => absurd rfl z) (fun _ z => absurd rfl z) ?_ ?_
        · intro _ _ z; rw [eL] at z; exact nxf _ (by simp [ctP]; omega)
        · intro _ _ z
          rw [eL] at z
          obtain ⟨g0, g1, g2, g3, -⟩ := hL.2.2.2.2.2 i (by omega)
          rw [hcl, g0]
          refine c7_isBare g3 ?_
          cases hb : isBa ((sL S).2 i).1 with
          | true => exact gX7_counted_33 (fun z => absurd z (by decide)) (fun _ => nxt _ (by simp [ctP, hb]; omega))
          | false => exact gX7_counted_33 (fun _ => nxf _ (by simp [ctP, hb])) (fun z => absurd rfl z)
      · refine gX7_counted_4 (fun _ _ z => absurd rfl z) (fun _ _ z => absurd rfl z) (fun _ _ z => absurd rfl z) (fun _ _ _ _ => by rw [hL.2.2.1]; exact ni_in (by omega) (by omega)) (fun _ z => absurd z (by decide)) (fun z => absurd z n6) (fun _ _ z => absurd rfl z) (fun _ _ z => absurd rfl z) (fun _ _ z => absurd rfl z) (fun _ _ z => absurd rfl z) (fun _ _ z => absurd rfl z) (fun _ _ z => absurd rfl z) (fun _ _ z => absurd rfl z) (fun _ _ z => absurd rfl z) ?_ ?_ (fun _ z => absurd z (by decide)) (fun _ z => absurd z (by decide))
        · intro _ _ _ z; rw [eL] at z; exact nxf _ (by simp [ctP]; omega)
        · intro _ _ _ z
          rw [eL] at z
          obtain ⟨g0, g1, g2, g3, -⟩ := hL.2.2.2.2.2 i (by omega)
          rw [hcl, g0]
          refine c7_isWooded g3 ?_
          cases hb : isWo ((sL S).2 i).1 with
          | true => exact gX7_counted_67 (fun z => absurd z (by decide)) (fun _ => nxt _ (by simp [ctP, hb]; omega))
          | false => exact gX7_counted_67 (fun _ => nxf _ (by simp [ctP, hb])) (fun z => absurd rfl z)
      · refine gX7_counted_4 (fun _ _ _ z => absurd rfl z) (fun _ _ _ z => absurd rfl z) (fun _ _ _ _ => by rw [r2]; exact ni_in (by omega) (by omega)) (fun _ _ z => absurd z (by decide)) (fun _ z => absurd z (by decide)) (fun z => absurd z n6) (fun _ _ _ z => absurd rfl z) (fun _ _ _ z => absurd rfl z) (fun _ _ _ z => absurd rfl z) (fun _ _ _ z => absurd rfl z) (fun _ _ _ z => absurd rfl z) (fun _ _ _ z => absurd rfl z) ?_ ?_ (fun _ _ z => absurd z (by decide)) (fun _ _ z => absurd z (by decide)) (fun _ z => absurd z (by decide)) (fun _ z => absurd z (by decide))
        · intro _ _ _ _ z; rw [hcl, sz_neg (by omega) (r3 i (by omega))] at z; exact nxf _ z
        · intro _ _ _ _ z; rw [hcl, sz_neg (by omega) (r3 i (by omega)), Bool.not_eq_false] at z; exact nxt _ z
      · refine gX7_counted_4 (fun _ _ _ _ z => absurd rfl z) (fun _ _ _ _ _ z => by rw [t2]; exact ni_in (by have := mt e4.mpr z; omega) (by omega)) (fun _ _ _ z => absurd z (by decide)) (fun _ _ z => absurd z (by decide)) (fun _ z => absurd z (by decide)) (fun z => absurd z n6) (fun _ _ _ _ z => absurd rfl z) (fun _ _ _ _ z => absurd rfl z) (fun _ _ _ _ z => absurd rfl z) ?_ ?_ ?_ (fun _ _ _ z => absurd z (by decide)) (fun _ _ _ z => absurd z (by decide)) (fun _ _ z => absurd z (by decide)) (fun _ _ z => absurd z (by decide)) (fun _ z => absurd z (by decide)) (fun _ z => absurd z (by decide))
        · intro _ _ _ _ _ z; rw [e4] at z; exact nxf _ (by simp [ctP]; omega)
        · intro _ _ _ _ _ z1 z; rw [e4] at z1; rw [hcl, sz_neg (by omega) (t3 i (by omega))] at z; exact nxf _ (by unfold ctP; simp only [z]; simp)
        · intro _ _ _ _ _ z1 z; rw [e4] at z1; rw [hcl, sz_neg (by omega) (t3 i (by omega)), Bool.not_eq_false] at z; exact nxt _ (by unfold ctP; simp only [z]; simp; omega)
      · refine gX7_counted_4 (fun _ _ _ _ _ z => by rw [hK.2.1]; exact ni_in (by have := mt e3.mpr z; omega) (by omega)) (fun _ _ _ _ z => absurd z (by decide)) (fun _ _ _ z => absurd z (by decide)) (fun _ _ z => absurd z (by decide)) (fun _ z => absurd z (by decide)) (fun z => absurd z n6) ?_ ?_ ?_ (fun _ _ _ _ z => absurd z (by decide)) (fun _ _ _ _ z => absurd z (by decide)) (fun _ _ _ _ z => absurd z (by decide)) (fun _ _ _ z => absurd z (by decide)) (fun _ _ _ z => absurd z (by decide)) (fun _ _ z => absurd z (by decide)) (fun _ _ z => absurd z (by decide)) (fun _ z => absurd z (by decide)) (fun _ z => absurd z (by decide))
        · intro _ _ _ _ _ z; rw [e3] at z; exact nxf _ (by simp [ctP]; omega)
        · intro _ _ _ _ _ z1 z
          rw [e3] at z1; rw [hcl] at z
          have g := hK.2.2 i (by omega)
          cases ho : sK S i with
          | none => exact nxf _ (by unfold ctP; simp only [ho]; simp)
          | some ds =>
            rw [ho] at g
            rw [g.1] at z
            exact absurd z (nI_pos (by have := g.2.1; omega))
        · intro _ _ _ _ _ z1 z
          rw [e3] at z1; rw [hcl] at z
          have g := hK.2.2 i (by omega)
          cases ho : sK S i with
          | none =>
            rw [ho] at g
            have g : (m.2.1 76).getD i 0 = -1 := g
            rw [g] at z
            exact absurd (by decide) z
          | some ds => exact nxt _ (by unfold ctP; simp only [ho]; simp; omega)
  exact gX7_counted_0 (loop 6 0 l4 (by omega))
theorem R_count {x : Int32} (h : RR S m) (K : Q (some (.int (o_count S x))) m) : pm_G (d + 2) mX7_count 0 [some (.ref 65), some (.int x)] [] m Q := by
  have hL := h.2.2.1
  have hL6 := hL.2.1
  have hC := h.2.2.2.1
  have hN := h.2.2.2.2.1
  refine gX7_count_0 ?_
  by_cases hx : 0 ≤ x.toInt ∧ x.toInt < 11
  · obtain ⟨k, hi, hk, hn⟩ := idx_some (n := 11) (x := x) (by omega) (by omega) (by omega)
    simp only [o_count, hi] at K
    rw [hn]
    have big : 6 ≤ k → pm_G (d + 2) mX7_count 1 [some (.ref 65), some (.int (nI k))] [.int (nI k)] m Q := by
      intro h6
      have sw : (nI k).toInt < 0 ∨ 5 < (nI k).toInt := by rw [nI_toInt (by omega)]; omega
      refine gX7_count_1_d sw (c7_in (fun _ _ => ?_) (fun z => ?_))
      · refine gX7_count_83 (fun z => absurd z (by decide)) (fun _ => c7_counted h6 (by omega) h (gX7_count_91 ?_))
        refine q_eq K ?_
        have ks : k = 6 ∨ k = 7 ∨ k = 8 ∨ k = 9 ∨ k = 10 := by omega
        have lim : ∀ (n : Nat) (q : Nat → Bool), n ≤ 6 → cntB (fun i => decide (i < n) && q i) 6 = cntB q n := fun n q hn => by
          have := cntB_lim (q := q) (n := n) (6 - n)
          rw [show n + (6 - n) = 6 by omega] at this
          exact this
        rcases ks with e | e | e | e | e <;> subst e
        · exact congrArg nI (lim _ _ hL6)
        · exact congrArg nI (lim _ _ hL6)
        · rfl
        · exact congrArg nI (lim 4 (fun r => (sT S r).isSome) (by omega))
        · exact congrArg nI (lim 3 (fun r => (sK S r).isSome) (by omega))
      · rw [t64, nI_toInt (by omega), show (6 : Int64).toInt = 6 from rfl, show (10 : Int64).toInt = 10 from rfl] at z
        omega
    by_cases h6 : 6 ≤ k
    · exact big h6
    · have ks : k = 0 ∨ k = 1 ∨ k = 2 ∨ k = 3 ∨ k = 4 ∨ k = 5 := by omega
      rcases ks with e | e | e | e | e | e <;> subst e
      · refine gX7_count_1_0 ?_; rw [hL.1]; exact K
      · refine gX7_count_1_1 ?_; rw [hN.2.2.1]; exact K
      · refine gX7_count_1_2 ?_; rw [hC.2.2.1]; exact K
      · refine gX7_count_1_3 ?_; rw [hN.2.2.2.1]; exact K
      · exact gX7_count_1_4 (c7_tentsThat (w := 1) (Or.inl rfl) h (gX7_count_65 K))
      · exact gX7_count_1_5 (c7_tentsThat (w := 2) (Or.inr rfl) h (gX7_count_71 K))
  · simp only [o_count, idx_none (n := 11) (x := x) (by omega)] at K
    refine gX7_count_1_d (by omega) (c7_in (fun h1 h2 => ?_) (fun z => gX7_count_83 (fun _ => K) (fun z => absurd rfl z)))
    rw [t64, show (6 : Int64).toInt = 6 from rfl] at h1
    rw [t64, show (10 : Int64).toInt = 10 from rfl] at h2
    omega
end COUNTR

section CAMPR
variable {d : Nat} {m m0 : pmMem} {Q : Option Value → pmMem → Prop} {S : Sg} {l : List Int32} {t q n : Nat} {H : Nat → Nat × Nat × Nat}
def ld3 (c : Nat) : Prop := c = 70 ∨ c = 71 ∨ c = 72
theorem l7_camp1 {x1 : Int32} (h70 : (m.2.1 70).length = 6) (h71 : (m.2.1 71).length = 6) (h72 : (m.2.1 72).length = 6) (h82 : (m.2.1 82).length = 18) (K : ∀ m', agA ld3 m m' → (m'.2.1 70).length = 6 → (m'.2.1 71).length = 6 → (m'.2.1 72).length = 6 → (∀ h, h < 6 → (m'.2.1 70).getD h 0 = (m.2.1 82).getD h 0 ∧ (m'.2.1 71).getD h 0 = (m.2.1 82).getD (6 + h) 0 ∧ (m'.2.1 72).getD h 0 = (m.2.1 82).getD (12 + h) 0) → pm_G d mX7_camp 103 [some (.ref 65), some (.int x1), some (.int 0)] [] m' Q) : pm_G d mX7_camp 47 [some (.ref 65), some (.int x1), some (.int 0)] [] m Q := by
  have loop : ∀ (k i : Nat) (m1 : pmMem), i + k = 6 → agA ld3 m m1 → (m1.2.1 70).length = 6 → (m1.2.1 71).length = 6 → (m1.2.1 72).length = 6 → (∀ h, h < i → (m1.2.1 70).getD h 0 = (m.2.1 82).getD h 0 ∧ (m1.2.1 71).getD h 0 = (m.2.1 82).getD (6 + h) 0 ∧ (m1.2.1 72).getD h 0 = (m.2.1 82).getD (12 + h) 0) → pm_G d mX7_camp 47 [some (.ref 65), some (.int x1), some (.int (nI i))] [] m1 Q := by
    intro k
    induction k with
    | zero =>
      intro i m1 hi a1 q0 q1 q2 inv
      have e : i = 6 := by omega
      subst e
      exact gX7_camp_47 (fun z => absurd (by decide) z) (fun z => absurd (by decide) z) (fun z => absurd (by decide) z) (fun z => absurd (by decide) z) (fun z => absurd (by decide) z) (fun z => absurd (by decide) z) (fun _ => K m1 a1 q0 q1 q2 inv) (fun z => absurd (by decide) z)
    | succ k ih =>
      intro i m1 hi a1 q0 q1 q2 inv
      have e82 : m1.2.1 82 = m.2.1 82 := a1.2.2 82 (by unfold ld3; omega)
      have x6 : (6 : Int32) + nI i = nI (6 + i) := nI_add 6 i
      have x12 : (12 : Int32) + nI i = nI (12 + i) := nI_add 12 i
      have c0 : (nI i).toNatClampNeg = i := ni_cl (by omega)
      have c6 : (nI (6 + i)).toNatClampNeg = 6 + i := ni_cl (by omega)
      have c12 : (nI (12 + i)).toNatClampNeg = 12 + i := ni_cl (by omega)
      refine gX7_camp_47 (fun _ => by rw [q0]; exact ni_in (by omega) (by omega)) (fun _ m2 e2 => ?_) (fun _ m2 e2 m3 e3 => ?_) (fun _ m2 e2 m3 e3 => ?_) (fun _ m2 e2 => ?_) (fun _ => by rw [e82, h82]; exact ni_in (by omega) (by omega)) (fun z => absurd z (nle_ni (k := 6) (by omega) (by omega))) (fun _ m2 e2 m3 e3 m4 e4 => ?_)
      · rw [e2, pm_rA, if_neg (by omega), q1]; exact ni_in (by omega) (by omega)
      · rw [e3, pm_rA, if_neg (by omega), e2, pm_rA, if_neg (by omega), q2]; exact ni_in (by omega) (by omega)
      · rw [x12, e3, pm_rA, if_neg (by omega), e2, pm_rA, if_neg (by omega), e82, h82]; exact ni_in (by omega) (by omega)
      · rw [x6, e2, pm_rA, if_neg (by omega), e82, h82]; exact ni_in (by omega) (by omega)
      · have f82 : m2.2.1 82 = m.2.1 82 := by rw [e2, pm_rA, if_neg (by omega)]; exact e82
        have g82 : m3.2.1 82 = m.2.1 82 := by rw [e3, pm_rA, if_neg (by omega)]; exact f82
        rw [c0, e82] at e2
        rw [c0, x6, c6, f82] at e3
        rw [c0, x12, c12, g82] at e4
        have y0 : m4.2.1 70 = (m1.2.1 70).set i ((m.2.1 82).getD i 0) := by rw [e4, pm_rA, if_neg (by omega), e3, pm_rA, if_neg (by omega), e2, pm_rA, if_pos rfl]
        have y1 : m4.2.1 71 = (m1.2.1 71).set i ((m.2.1 82).getD (6 + i) 0) := by rw [e4, pm_rA, if_neg (by omega), e3, pm_rA, if_pos rfl, e2, pm_rA, if_neg (by omega)]
        have y2 : m4.2.1 72 = (m1.2.1 72).set i ((m.2.1 82).getD (12 + i) 0) := by rw [e4, pm_rA, if_pos rfl, e3, pm_rA, if_neg (by omega), e2, pm_rA, if_neg (by omega)]
        rw [nI_1]
        refine ih (i + 1) m4 (by omega) ?_ (by rw [y0, List.length_set]; exact q0) (by rw [y1, List.length_set]; exact q1) (by rw [y2, List.length_set]; exact q2) (fun h hh => ?_)
        · rw [e4, e3, e2]
          exact agA_A (agA_A (agA_A a1 (by unfold ld3; omega)) (by unfold ld3; omega)) (by unfold ld3; omega)
        · rw [y0, y1, y2, getD_set (by omega), getD_set (by omega), getD_set (by omega)]
          by_cases c : h = i
          · subst c; simp
          · simp only [if_neg c]; exact inv h (by omega)
  exact loop 6 0 m (by omega) (agA_refl _ _) h70 h71 h72 (fun h hh => absurd hh (by omega))
theorem l7_camp2 {x1 : Int32} {p : List Int32} (h73 : (m.2.1 73).length = 12) (h83 : m.2.1 83 = p) (hp : p.length = 12) (K : ∀ m', agA (fun c => c = 73) m m' → m'.2.1 73 = p → pm_G d mX7_camp 129 [some (.ref 65), some (.int x1), some (.int 0)] [] m' Q) : pm_G d mX7_camp 103 [some (.ref 65), some (.int x1), some (.int 0)] [] m Q := by
  have loop : ∀ (k i : Nat) (m1 : pmMem), i + k = 12 → agA (fun c => c = 73) m m1 → (m1.2.1 73).length = 12 → (∀ j, j < i → (m1.2.1 73).getD j 0 = p.getD j 0) → pm_G d mX7_camp 103 [some (.ref 65), some (.int x1), some (.int (nI i))] [] m1 Q := by
    intro k
    induction k with
    | zero =>
      intro i m1 hi a1 q0 inv
      have e : i = 12 := by omega
      subst e
      refine gX7_camp_103 (fun z => absurd (by decide) z) (fun z => absurd (by decide) z) (fun _ => K m1 a1 ?_) (fun z => absurd (by decide) z)
      exact Eq.trans (lst_of q0) (Eq.trans (lst_congr (fun j hj => inv j hj)) (lst_of hp).symm)
    | succ k ih =>
      intro i m1 hi a1 q0 inv
      have e83 : m1.2.1 83 = p := by rw [a1.2.2 83 (by omega)]; exact h83
      refine gX7_camp_103 (fun _ => by rw [q0]; exact ni_in (by omega) (by omega)) (fun _ => by rw [e83, hp]; exact ni_in (by omega) (by omega)) (fun z => absurd z (n12 (by omega))) (fun _ m2 e2 => ?_)
      rw [ni_cl (by omega), e83] at e2
      have y : m2.2.1 73 = (m1.2.1 73).set i (p.getD i 0) := by rw [e2, pm_rA, if_pos rfl]
      rw [nI_1]
      refine ih (i + 1) m2 (by omega) (by rw [e2]; exact agA_A a1 rfl) (by rw [y, List.length_set]; exact q0) (fun j hj => ?_)
      rw [y, getD_set (by omega)]
      by_cases c : j = i
      · rw [if_pos c, c]
      · rw [if_neg c]; exact inv j (by omega)
  exact loop 12 0 m (by omega) (agA_refl _ _) h73 (fun j hj => absurd hj (by omega))
theorem l7_camp3 {x1 : Int32} (h76 : (m.2.1 76).length = 3) (K : ∀ m' m2, agA (fun c => c = 76) m m' → (m'.2.1 76).length = 3 → (∀ j, j < 3 → (m'.2.1 76).getD j 0 = -1) → m2 = pm_setF m' 65 10 0 → pm_G d mX7_goThrough 0 [some (.ref 65), none, none, none] [] m2 (fun r m' => pm_G (d + 1) mX7_camp 156 [some (.ref 65), some (.int x1), some (.int (nI 3))] (pm_psh r []) m' Q)) : pm_G (d + 1) mX7_camp 129 [some (.ref 65), some (.int x1), some (.int 0)] [] m Q := by
  have loop : ∀ (k i : Nat) (m1 : pmMem), i + k = 3 → agA (fun c => c = 76) m m1 → (m1.2.1 76).length = 3 → (∀ j, j < i → (m1.2.1 76).getD j 0 = -1) → pm_G (d + 1) mX7_camp 129 [some (.ref 65), some (.int x1), some (.int (nI i))] [] m1 Q := by
    intro k
    induction k with
    | zero =>
      intro i m1 hi a1 q0 inv
      have e : i = 3 := by omega
      subst e
      exact gX7_camp_129 (fun z => absurd (by decide) z) (fun _ m2 e2 => K m1 m2 a1 q0 inv e2) (fun z => absurd (by decide) z)
    | succ k ih =>
      intro i m1 hi a1 q0 inv
      refine gX7_camp_129 (fun _ => by rw [q0]; exact ni_in (by omega) (by omega)) (fun z => absurd z (nle_ni (k := 3) (by omega) (by omega))) (fun _ m2 e2 => ?_)
      rw [ni_cl (by omega)] at e2
      have y : m2.2.1 76 = (m1.2.1 76).set i (-1) := by rw [e2, pm_rA, if_pos rfl]
      rw [nI_1]
      refine ih (i + 1) m2 (by omega) (by rw [e2]; exact agA_A a1 rfl) (by rw [y, List.length_set]; exact q0) (fun j hj => ?_)
      rw [y, getD_set (by omega)]
      by_cases c : j = i
      · rw [if_pos c]
      · rw [if_neg c]; exact inv j (by omega)
  exact loop 3 0 m (by omega) (agA_refl _ _) h76 (fun j hj => absurd hj (by omega))
def cpD (c : Nat) : Prop := c = 65 ∨ (70 ≤ c ∧ c ≤ 73) ∨ (76 ≤ c ∧ c ≤ 80) ∨ c = 82 ∨ c = 83
def cpE (k : Nat) : Prop := k = 4 ∨ k = 10 ∨ k = 15 ∨ k = 16 ∨ k = 24 ∨ k = 25 ∨ k = 26
theorem R_camp {x : Int32} {l2 : Option Value} (h : RR S m) (K : okR (o_camp S x) m Q) : pm_G (d + 6) mX7_camp 0 [some (.ref 65), some (.int x), l2] [] m Q := by
  have h7 := h.2.2.2.2.2.2.1
  have hT := h.2.1
  refine gX7_camp_0 (c7_isText (fun t hi ht hx => ?_) (fun hi => ?_))
  · simp only [o_camp, hi] at K
    have hcl : x.toNatClampNeg = t := by rw [hx]; exact ni_cl (by omega)
    have g := hT.2.2 t ht
    have hin : vp_in x (m.2.1 69).length := by rw [hT.2.1, hx]; exact ni_in ht (by omega)
    cases ho : sT S t with
    | none =>
      rw [ho] at g K
      have g : (m.2.1 69).getD t 0 = -1 := g
      refine gX7_camp_4 (fun _ => hin) ?_ ?_ (fun z => absurd z (by decide)) <;> rw [hcl, g]
      · intro _ z; exact absurd z (by decide)
      · intro _ _
        exact c7_find (f := 1) (by omega) (by omega) h (fun m' g1 g2 => gX7_camp_23 (K m' g1 g2))
    | some l =>
      simp only [ho] at K
      rw [ho] at g
      have gl := g.2.1
      refine gX7_camp_4 (fun _ => hin) ?_ ?_ (fun z => absurd z (by decide)) <;> rw [hcl, g.1]
      · intro _ _
        rw [hx]
        refine c7_readAll g hT.1 hT.2.1 ht h7.2.2.1 h7.2.2.2.1 (fun m1 a1 e1 => ?_)
        have h1 := RR_rd h a1 e1.1 e1.2.1
        refine gX7_camp_29 (fun z m2 e2 => ?_) (fun z => ?_)
        · rw [if_pos z] at K
          obtain ⟨n1, n2, n3, n4, n5⟩ := e1.2.2 z
          have pl := readF_g z gl
          generalize hN : (readF l).2.1 = LL at *
          obtain ⟨n, H⟩ := LL
          generalize (readF l).2.2 = p at *
          rw [n1] at e2
          have s22 : m2.2 = m1.2 := by rw [e2]; rfl
          have L1 := h1.2.2.1
          have C1 := h1.2.2.2.1
          have K1 := h1.2.2.2.2.2.1
          refine l7_camp1 (by rw [s22]; exact L1.2.2.1) (by rw [s22]; exact L1.2.2.2.1) (by rw [s22]; exact L1.2.2.2.2.1) (by rw [s22]; exact e1.1) (fun m3 a3 q0 q1 q2 inv => ?_)
          refine l7_camp2 (p := p) (by rw [a3.2.2 73 (by unfold ld3; omega), s22, C1.1]; exact C1.2.1) (by rw [a3.2.2 83 (by unfold ld3; omega), s22]; exact n5) pl (fun m4 a4 e73 => ?_)
          refine l7_camp3 (by rw [a4.2.2 76 (by omega), a3.2.2 76 (by unfold ld3; omega), s22]; exact K1.2.1) (fun m5 m6 a5 l5 k5 e6 => ?_)
          have nG : ∀ k, noG k → noG k := fun _ => id
          have A1 : agR cpD cpE noG m m1 := agR_mono a1 (fun c z => by unfold rdD at z; unfold cpD; omega) (fun c z => by unfold rdE at z; unfold cpE; omega) nG
          have A2 : agR cpD cpE noG m m2 := by rw [e2]; exact agR_F A1 (by unfold cpE; omega)
          have A5 : agR cpD cpE noG m m5 := agR_agA (agR_agA (agR_agA A2 a3 (fun c z => by unfold ld3 at z; unfold cpD; omega)) a4 (fun c z => by unfold cpD; omega)) a5 (fun c z => by unfold cpD; omega)
          have A6 : agR cpD cpE noG m m6 := by rw [e6]; exact agR_F A5 (by unfold cpE; omega)
          have s6 : ∀ c, c ≠ 76 → m6.2.1 c = m4.2.1 c := fun c hc => by rw [e6]; exact a5.2.2 c hc
          have s4 : ∀ c, c ≠ 73 → m4.2.1 c = m3.2.1 c := fun c hc => a4.2.2 c hc
          have f4 : m6.1 65 4 = nI n := by
            rw [e6, pm_rF, if_neg (by omega), a5.1, a4.1, a3.1, e2, pm_rF, if_pos ⟨rfl, rfl⟩]
          have LR : landR (n, H) m6 := by
            refine ⟨f4, n2, ?_, ?_, ?_, fun i hi => ?_⟩
            · rw [s6 70 (by omega), s4 70 (by omega)]; exact q0
            · rw [s6 71 (by omega), s4 71 (by omega)]; exact q1
            · rw [s6 72 (by omega), s4 72 (by omega)]; exact q2
            · rw [s6 70 (by omega), s4 70 (by omega), s6 71 (by omega), s4 71 (by omega), s6 72 (by omega), s4 72 (by omega)]
              have hi' : i < n := hi
              have n2' : n ≤ 6 := n2
              obtain ⟨w1, w2, w3⟩ := inv i (by omega)
              obtain ⟨v1, v2, v3, v4⟩ := n4 i hi
              rw [s22] at w1 w2 w3
              exact ⟨w1.trans v1, w2.trans v2, w3.trans v3, v4⟩
          have CR : campR p [] m6 := by
            refine ⟨by rw [s6 73 (by omega)]; exact e73, pl, by rw [e6, pm_rF, if_pos ⟨rfl, rfl⟩]; rfl, by simp, ?_, by simp⟩
            rw [s6 74 (by omega), s4 74 (by omega), a3.2.2 74 (by unfold ld3; omega), s22]; exact C1.2.2.2.2.1
          have N1 := h1.2.2.2.2.1
          have h71 := h1.2.2.2.2.2.2.1
          have lR : lenR m6 := by
            refine ⟨?_, ?_, ?_, ?_⟩
            · rw [s6 77 (by omega), s4 77 (by omega), a3.2.2 77 (by unfold ld3; omega), s22, N1.1]; exact N1.2.2.2.2.1
            · rw [s6 78 (by omega), s4 78 (by omega), a3.2.2 78 (by unfold ld3; omega), s22, N1.2.1, lst_len]
            · rw [s6 79 (by omega), s4 79 (by omega), a3.2.2 79 (by unfold ld3; omega), s22]; exact h71.1
            · rw [s6 80 (by omega), s4 80 (by omega), a3.2.2 80 (by unfold ld3; omega), s22]; exact h71.2.1
          refine c7_goThrough LR CR lR (fun y hy => (by cases hy)) (fun m7 b1 b2 b3 b4 b5 b6 => gX7_camp_156 ?_)
          have A7 : agR cpD cpE noG m m7 := by
            refine agR_trans A6 ⟨fun c hc => ?_, fun c hc => ?_, fun k hk => ?_, fun k _ => by rw [b5]⟩
            · have := b6 c (by unfold gtS; omega); exact ⟨this.1, this.2.2⟩
            · exact (b6 c (by unfold gtS; unfold cpD at hc; omega)).2.1
            · exact b4 k (by unfold cpE at hk; omega) (by unfold cpE at hk; omega)
          have r4 : m7.1 65 4 = nI n := by rw [b4 4 (by omega) (by omega)]; exact f4
          rw [r4]
          have nD : ∀ c, (65 < c ∧ c < 70) ∨ c = 74 ∨ c = 75 ∨ c = 81 ∨ (84 ≤ c ∧ c ≤ 86) → ¬ cpD c := fun c hc z => by unfold cpD at z; omega
          have e7 : ∀ c, 65 < c → (c < 77 ∨ 80 < c) → m7.2.1 c = m6.2.1 c := fun c h1 h2 => (b6 c (by unfold gtS; omega)).2.1
          refine K m7 (RR_upd h A7 (Or.inl ⟨rfl, nD _ (by omega), nD _ (by omega)⟩) (Or.inl ⟨rfl, nD _ (by omega), nD _ (by omega)⟩) (Or.inr ?_) (Or.inr ?_) (Or.inr b1) (Or.inr ⟨?_, ?_, fun k hk => ?_⟩) (Or.inr ⟨b3.2.2.1, b3.2.2.2, ?_, ?_, ?_⟩) (Or.inl ⟨rfl, fun z => by unfold cpE at z; omega, id, id⟩) (Or.inl ⟨rfl, fun z => by unfold cpE at z; omega, nD _ (by omega)⟩) ⟨fun y hy => (by have hy : y ∈ ([] : List Nat) := hy; cases hy), fun k ds hk => (by have hk : (none : Option (List Nat)) = some ds := hk; cases hk), fun _ => ⟨rfl, fun k => rfl⟩⟩) (agR_ag A7 (fun c z => by unfold cpD at z; omega))
          · show landR (n, H) m7
            unfold landR
            rw [r4, e7 70 (by omega) (by omega), e7 71 (by omega) (by omega), e7 72 (by omega) (by omega)]
            exact ⟨rfl, LR.2⟩
          · show campR p [] m7
            unfold campR
            rw [b4 10 (by omega) (by omega), e7 73 (by omega) (by omega), e7 74 (by omega) (by omega)]
            exact CR
          · rw [e7 75 (by omega) (by omega), s6 75 (by omega), s4 75 (by omega), a3.2.2 75 (by unfold ld3; omega), s22]; exact K1.1
          · rw [e7 76 (by omega) (by omega), e6]; exact l5
          · show (m7.2.1 76).getD k 0 = -1
            rw [e7 76 (by omega) (by omega), e6]; exact k5 k hk
          · rw [e7 82 (by omega) (by omega), s6 82 (by omega), s4 82 (by omega), a3.2.2 82 (by unfold ld3; omega), s22]; exact e1.1
          · rw [e7 83 (by omega) (by omega), s6 83 (by omega), s4 83 (by omega), a3.2.2 83 (by unfold ld3; omega), s22]; exact e1.2.1
          · rw [A7.2.1 84 (nD _ (by omega)), A7.2.1 85 (nD _ (by omega)), A7.2.1 86 (nD _ (by omega))]; exact h7.2.2.2.2
        · rw [if_neg z] at K
          exact K m1 h1 (agR_ag a1 (fun c z => by unfold rdD at z; omega))
      · intro _ z; exact absurd (nI_pos' (n := l.length) (by omega)) z
  · simp only [o_camp, hi] at K
    exact gX7_camp_4 (fun z => absurd rfl z) (fun z => absurd rfl z) (fun z => absurd rfl z) (fun _ => K m h (ag_refl _ _))
end CAMPR

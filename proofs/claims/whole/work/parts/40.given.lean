/-! which numbers may be given to a tent -/
def o_given (S : Sg) (x y z : Int32) : Int32 × Sg := match idx 12 x with
  | none => (-1, S)
  | some t => match idx (sL S).1 y with
    | none => (-1, S)
    | some q => match idx 6 z with
      | none => (-1, S)
      | some r => o_notes S r (fun l => nI (mkS (fun i => fitsN S l ((sS S).1.set t (nI i - 4)) q ((sL S).2 q).1) 10))
theorem n10 {i : Nat} (h : i < 10) : ¬ (10 : Int32) ≤ nI i := fun z => by
  have := (ni_le (a := 10) (by omega) (by omega)).mp z
  omega
section GIVEN
variable {d : Nat} {m : pmMem} {Q : Option Value → pmMem → Prop} {S : Sg}
theorem C_given {x y w : Int32} {l4 l5 l6 l7 : Option Value} (h : RC S m) (K : okC (o_given S x y w) m Q) : pm_G (d + 5) mX6_given 0 [some (.ref 0), some (.int x), some (.int y), some (.int w), l4, l5, l6, l7] [] m Q := by
  have hL := h.2.2.1
  have hL6 := hL.2.1
  refine gX6_given_0 (c_isTent (fun t hi1 ht hx => ?_) (fun hi1 => ?_))
  · refine gX6_given_4 (fun z => absurd z (by decide)) (fun _ => c_isHill hL (fun q hi0 hq hy => ?_) (fun hi0 => ?_))
    · refine gX6_given_12 (fun z => absurd z (by decide)) (fun _ => c_isRow (fun r hi hr hw => ?_) (fun hi => ?_))
      · simp only [o_given, hi1, hi0, hi, o_notes] at K
        have hin : vp_in w (pm_rl 1) := by rw [hw]; exact ni_in (n := 6) hr (by omega)
        have hin2 : vp_in y (pm_rl 9) := by rw [hy]; exact ni_in (n := 6) (by omega) (by omega)
        have hsh := h.1 r hr
        refine gX6_given_19 (fun _ => hin) (fun _ => ?_) (fun z => absurd z (by decide))
        rw [hw, ra_row hr]
        refine c_notesFault (kd_row hr) hsh ?_
        rw [← hw]
        have bad : ∀ f, f ≠ 0 → f ≤ 5 → okC (-3, find S f) m Q → pm_G (d + 5) mX6_given 33 [some (.ref 0), some (.int x), some (.int y), some (.int w), l4, l5, l6, l7] [.int (nI f)] m Q := by
          intro f h0 h5 K
          have nf : ¬ nI f = 0 := fun z => absurd ((ni_eq (b := 0) (by omega) (by omega)).mp z) h0
          exact gX6_given_33 (fun z => absurd z nf) (fun z => absurd z nf) (fun _ => c_refuse (by omega) h5 h (fun m' g1 g2 => gX6_given_46 (K m' g1 g2)))
        cases ho : sR S r with
        | none => rw [ho] at K; exact bad 1 (by omega) (by omega) K
        | some l =>
          simp only [ho] at K
          by_cases hf : noteF (some l) = 0
          · rw [if_pos hf] at K
            rw [hf]
            obtain ⟨n1, n2⟩ := noteF_0 hf
            have loop : ∀ (n i : Nat) (m1 : pmMem), i + n = 10 → RC S m1 → (∀ v, (m1.2.1 22).set t v = (sS S).1.set t v) → ag (inC 20) m m1 → pm_G (d + 5) mX6_given 75 [some (.ref 0), some (.int x), some (.int y), some (.int w), some (.int (nI 0)), some (.ref (10 + q)), some (.int (nI (mkS (fun i => fitsN S l ((sS S).1.set t (nI i - 4)) q ((sL S).2 q).1) i))), some (.int (nI i))] [] m1 Q := by
              intro n
              induction n with
              | zero =>
                intro i m1 hi h1 inv ha
                have hi2 : i = 10 := by omega
                subst hi2
                exact gX6_given_75 (kd_hill (by omega)) (fun z => absurd (by decide) z) (fun z => absurd (by decide) z) (fun _ => K m1 h1 (ag_mono (fun c z => by unfold inC at z; omega) ha)) (fun z => absurd (by decide) z)
              | succ n ih =>
                intro i m1 hi h1 inv ha
                have l1 := h1.2.2.2.2.2.1.2.2.2.2.1
                refine gX6_given_75 (kd_hill (by omega)) (fun _ => by rw [hx, l1.2.1]; exact ni_in ht (by omega)) (fun _ _ _ => hin) (fun z => absurd z (n10 (by omega))) (fun _ m2 e2 => ?_)
                rw [hx, ni_cl (by omega), inv] at e2
                have x22 : m2.2.1 22 = (sS S).1.set t (nI i - 4) := by rw [e2, pm_rA, if_pos rfl]
                have gl : (sS S).1.length = 12 := h1.2.2.2.1.1.2.2.2.2.2.1
                have a2 : ag (inC 20) m1 m2 := by rw [e2]; exact ag_A (ag_refl _ _) (by unfold inC; omega)
                have h2 : RC S m2 := RC_trial h1 a2 ⟨by rw [e2, pm_rA, if_neg (by omega)]; exact l1.1, by rw [x22, List.length_set]; exact gl, by rw [e2, pm_rA, if_neg (by omega)]; exact l1.2.2⟩
                obtain ⟨g0, g1, g2, g3, g4, g5, g6⟩ := h2.2.2.1.2.2 q hq
                have hsh2 := h2.1 r hr
                rw [ho] at hsh2
                rw [hw, ra_row hr, g0]
                refine c_fits (kd_row hr) (kd_hill (by omega)) rfl hsh2 n1 n2 g1 g2 x22 (by rw [List.length_set]; exact gl) (by omega) g6 g3 ?_
                rw [← hw]
                have nx := ih (i + 1) m2 (by omega) h2 (fun v => by rw [x22, List.set_set]) (ag_trans ha a2)
                have lt := mkS_lt (fun i => fitsN S l ((sS S).1.set t (nI i - 4)) q ((sL S).2 q).1) i
                cases hb : fitB ((sL S).2 q).1 ((sL S).2 q).2.1 ((sL S).2 q).2.2 ((sS S).1.set t (nI i - 4)) l (l.length / 2) with
                | false =>
                  refine gX6_given_118 (fun _ => ?_) (fun z => absurd rfl z)
                  rw [nI_1]
                  simp only [mkS, fitsN, hb] at nx
                  simpa [fitsN] using nx
                | true =>
                  refine gX6_given_118 (fun z => absurd z (by decide)) (fun _ => ?_)
                  rw [nI_1, ni_shl i (by omega), ni_or, or_add lt]
                  simp only [mkS, fitsN, hb] at nx
                  simpa [fitsN] using nx
            refine gX6_given_33 (fun _ => hin2) (fun _ => c_trial h (fun m' h' hF hag => ?_)) (fun z => absurd rfl z)
            rw [hy, ra_hill (by omega), ← hy]
            exact gX6_given_69 (loop 10 0 m' (by omega) h' (fun v => by rw [show m'.2.1 22 = (sS S).1 from hF.1.1]) hag)
          · rw [if_neg hf] at K
            exact bad _ hf (noteF_le _) K
      · simp only [o_given, hi1, hi0, hi] at K
        exact gX6_given_19 (fun z => absurd rfl z) (fun z => absurd rfl z) (fun _ => K m h (ag_refl _ _))
    · simp only [o_given, hi1, hi0] at K
      exact gX6_given_12 (fun _ => K m h (ag_refl _ _)) (fun z => absurd rfl z)
  · simp only [o_given, hi1] at K
    exact gX6_given_4 (fun _ => K m h (ag_refl _ _)) (fun z => absurd rfl z)
theorem R_given {x y w : Int32} {l4 l5 : Option Value} (h : RR S m) (K : okR (o_given S x y w) m Q) : pm_G (d + 5) mX7_given 0 [some (.ref 65), some (.int x), some (.int y), some (.int w), l4, l5] [] m Q := by
  have hL := h.2.2.1
  have hL6 := hL.2.1
  refine gX7_given_0 (c7_in0 (n := 12) (by omega) (t64 x) rfl rfl (fun t hi1 ht hx => ?_) (fun hi1 => ?_))
  · refine gX7_given_9 (fun z => absurd z (by decide)) (fun _ => c7_isHill hL (fun q hi0 hq hy => ?_) (fun hi0 => ?_))
    · refine gX7_given_17 (fun z => absurd z (by decide)) (fun _ => c7_isRow (fun r hi hr hw => ?_) (fun hi => ?_))
      · simp only [o_given, hi1, hi0, hi, o_notes] at K
        refine gX7_given_24 (fun _ => c7_wrongNotes h hr hw ?_) (fun z => absurd z (by decide))
        have bad : ∀ f, noteF (sR S r) = f → f ≠ 0 → f ≤ 5 → okR (-3, find S f) m Q → pm_G (d + 5) mX7_given 34 [some (.ref 65), some (.int x), some (.int y), some (.int w), l4, l5] [.int (nI f)] m Q := by
          intro f hf h0 h5 K
          refine gX7_given_34 (fun z => absurd ((ni_eq (b := 0) (by omega) (by omega)).mp z) h0) (fun _ => c7_wrongNotes h hr hw (gX7_given_43 ?_))
          rw [hf]
          exact c7_find (by omega) h5 h (fun m' g1 g2 => gX7_given_46 (K m' g1 g2))
        cases ho : sR S r with
        | none => rw [ho] at K bad; exact bad 1 rfl (by omega) (by omega) K
        | some l =>
          simp only [ho] at K bad
          by_cases hf : noteF (some l) = 0
          · rw [if_pos hf] at K
            rw [hf]
            obtain ⟨n1, n2⟩ := noteF_0 hf
            refine gX7_given_34 (fun _ => c7_asideS h (fun m' h' hG hA hb => gX7_given_51 ?_)) (fun z => absurd rfl z)
            have gl : (sS S).1.length = 12 := hG.2.1
            have hs := h'.2.2.2.2.2.2.1
            have loop : ∀ (n i : Nat) (m1 : pmMem), i + n = 10 → RR S m1 → (m1.2.1 79).length = 12 → (∀ v, (m1.2.1 79).set t v = (sS S).1.set t v) → ag (fun c => 65 ≤ c) m m1 → pm_G (d + 5) mX7_given 57 [some (.ref 65), some (.int x), some (.int y), some (.int w), some (.int (nI (mkS (fun i => fitsN S l ((sS S).1.set t (nI i - 4)) q ((sL S).2 q).1) i))), some (.int (nI i))] [] m1 Q := by
              intro n
              induction n with
              | zero =>
                intro i m1 hi h1 l79 inv ha
                have hi2 : i = 10 := by omega
                subst hi2
                exact gX7_given_57 (fun z => absurd (by decide) z) (fun z => absurd (by decide) z) (fun _ => K m1 h1 ha) (fun z => absurd (by decide) z)
              | succ n ih =>
                intro i m1 hi h1 l79 inv ha
                have L1 := h1.2.2.1
                refine gX7_given_57 (fun _ => by rw [hx, l79]; exact ni_in ht (by omega)) (fun _ m2 e2 => by rw [e2, pm_rA, if_neg (by omega), hy, L1.2.2.1]; exact ni_in (by omega) (by omega)) (fun z => absurd z (n10 (by omega))) (fun _ m2 e2 => ?_)
                rw [hx, ni_cl (by omega), inv] at e2
                have x79 : m2.2.1 79 = (sS S).1.set t (nI i - 4) := by rw [e2, pm_rA, if_pos rfl]
                have a2 : agA (fun c => c = 79) m1 m2 := by rw [e2]; exact agA_A (agA_refl _ _) rfl
                have hs1 := h1.2.2.2.2.2.2.1
                have l2 : (m2.2.1 79).length = 12 := by rw [x79, List.length_set]; exact gl
                have h2 : RR S m2 := by
                  refine RR_scr h1 a2 (fun c z => by omega) ⟨l2, ?_⟩
                  rw [a2.2.2 80 (by omega), a2.2.2 82 (by omega), a2.2.2 83 (by omega), a2.2.2 84 (by omega), a2.2.2 85 (by omega), a2.2.2 86 (by omega)]
                  exact hs1.2
                obtain ⟨g0, g1, g2, g3, g4, g5, g6⟩ := h2.2.2.1.2.2.2.2.2 q hq
                rw [show y.toNatClampNeg = q by rw [hy]; exact ni_cl (by omega), g0]
                refine c7_areNotes h2 hr hw hq hy ho n1 n2 x79 (by rw [List.length_set]; exact gl) g3 ?_
                have nx := ih (i + 1) m2 (by omega) h2 l2 (fun v => by rw [x79, List.set_set]) (ag_trans ha (ag_mono (fun c z => by omega) a2.ag))
                have lt := mkS_lt (fun i => fitsN S l ((sS S).1.set t (nI i - 4)) q ((sL S).2 q).1) i
                cases hb : fitB ((sL S).2 q).1 ((sL S).2 q).2.1 ((sL S).2 q).2.2 ((sS S).1.set t (nI i - 4)) l (l.length / 2) with
                | false =>
                  refine gX7_given_88 (fun _ => ?_) (fun z => absurd rfl z)
                  rw [nI_1]
                  simp only [mkS, fitsN, hb] at nx
                  simpa [fitsN] using nx
                | true =>
                  refine gX7_given_88 (fun z => absurd z (by decide)) (fun _ => ?_)
                  rw [nI_1, ni_shl i (by omega), ni_or, or_add lt]
                  simp only [mkS, fitsN, hb] at nx
                  simpa [fitsN] using nx
            exact loop 10 0 m' (by omega) h' hs.1 (fun v => by rw [hG.1]) hb
          · rw [if_neg hf] at K
            exact bad _ rfl hf (noteF_le _) K
      · simp only [o_given, hi1, hi0, hi] at K
        exact gX7_given_24 (fun z => absurd rfl z) (fun _ => K m h (ag_refl _ _))
    · simp only [o_given, hi1, hi0] at K
      exact gX7_given_17 (fun _ => K m h (ag_refl _ _)) (fun z => absurd rfl z)
  · simp only [o_given, hi1] at K
    exact gX7_given_9 (fun _ => K m h (ag_refl _ _)) (fun z => absurd rfl z)
end GIVEN

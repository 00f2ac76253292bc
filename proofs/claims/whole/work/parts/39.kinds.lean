section KINDS
variable {d : Nat} {m : pmMem} {Q : Option Value → pmMem → Prop} {S : Sg}
theorem R_from {x : Int32} {l2 l3 : Option Value} (h : RR S m) (K : okR (o_from S x) m Q) : pm_G (d + 5) mX7_from 0 [some (.ref 65), some (.int x), l2, l3] [] m Q := by
  refine gX7_from_0 (c7_isRow (fun r hi hr hx => ?_) (fun hi => ?_))
  · simp only [o_from, hi, o_notes] at K
    refine gX7_from_4 (fun _ => c7_wrongNotes h hr hx ?_) (fun z => absurd z (by decide))
    have bad : ∀ f, noteF (sR S r) = f → f ≠ 0 → f ≤ 5 → okR (-3, find S f) m Q → pm_G (d + 5) mX7_from 14 [some (.ref 65), some (.int x), l2, l3] [.int (nI f)] m Q := by
      intro f hf h0 h5 K
      refine gX7_from_14 (fun z => absurd ((ni_eq (b := 0) (by omega) (by omega)).mp z) h0) (fun _ => c7_wrongNotes h hr hx (gX7_from_23 ?_))
      rw [hf]
      exact c7_find (by omega) h5 h (fun m' g1 g2 => gX7_from_26 (K m' g1 g2))
    cases ho : sR S r with
    | none => rw [ho] at K bad; exact bad 1 rfl (by omega) (by omega) K
    | some l =>
      simp only [ho] at K bad
      by_cases hf : noteF (some l) = 0
      · rw [if_pos hf] at K
        rw [hf]
        obtain ⟨e1, e2⟩ := noteF_0 hf
        refine gX7_from_14 (fun _ => c7_asideS h (fun m' h' hG hA hb => gX7_from_31 ?_)) (fun z => absurd rfl z)
        have hL := h'.2.2.1
        have hL6 := hL.2.1
        have loop : ∀ (n i : Nat), i + n = (sL S).1 → pm_G (d + 5) mX7_from 35 [some (.ref 65), some (.int x), some (.int (nI (mkS (fun q => fitsN S l (sS S).1 q ((sL S).2 q).1) i))), some (.int (nI i))] [] m' Q := by
          intro n
          induction n with
          | zero =>
            intro i hi
            have hi2 : i = (sL S).1 := by omega
            subst hi2
            have le : m'.1 65 4 ≤ nI (sL S).1 := by rw [hL.1]; exact Int32.le_refl _
            exact gX7_from_35 (fun z => absurd le z) (fun _ => K m' h' hb) (fun z => absurd le z)
          | succ n ih =>
            intro i hi
            have n1 : ¬ m'.1 65 4 ≤ nI i := by
              rw [hL.1]
              intro z
              have := (ni_le (by omega) (by omega)).mp z
              omega
            obtain ⟨g0, g1, g2, g3, g4, g5, g6⟩ := hL.2.2.2.2.2 i (by omega)
            have nx := ih (i + 1) (by omega)
            refine gX7_from_35 (fun _ => by rw [hL.2.2.1]; exact ni_in (by omega) (by omega)) (fun z => absurd z n1) (fun _ => ?_)
            rw [ni_cl (by omega), g0]
            refine c7_areNotes h' hr hx (show i < (sL S).1 by omega) rfl ho e1 e2 hG.1 hG.2.1 g3 ?_
            have lt := mkS_lt (fun q => fitsN S l (sS S).1 q ((sL S).2 q).1) i
            cases hb : fitB ((sL S).2 i).1 ((sL S).2 i).2.1 ((sL S).2 i).2.2 (sS S).1 l (l.length / 2) with
            | false =>
              refine gX7_from_56 (fun _ => ?_) (fun z => absurd rfl z)
              rw [nI_1]
              simp only [mkS, fitsN, hb] at nx
              simpa [fitsN] using nx
            | true =>
              refine gX7_from_56 (fun z => absurd z (by decide)) (fun _ => ?_)
              rw [nI_1, ni_shl i (by omega), ni_or, or_add lt]
              simp only [mkS, fitsN, hb] at nx
              simpa [fitsN] using nx
        exact loop (sL S).1 0 (by omega)
      · rw [if_neg hf] at K
        exact bad _ rfl hf (noteF_le _) K
  · simp only [o_from, hi] at K
    exact gX7_from_4 (fun z => absurd rfl z) (fun _ => K m h (ag_refl _ _))
theorem n6 {i : Nat} (h : i < 6) : ¬ (6 : Int32) ≤ nI i := fun z => by
  have := (ni_le (a := 6) (by omega) (by omega)).mp z
  omega
theorem C_kinds {x y : Int32} {l3 l4 l5 : Option Value} (h : RC S m) (K : okC (o_kinds S x y) m Q) : pm_G (d + 5) mX6_kinds 0 [some (.ref 0), some (.int x), some (.int y), l3, l4, l5] [] m Q := by
  have hL := h.2.2.1
  have hL6 := hL.2.1
  have hC := h.2.2.2.1.1
  refine gX6_kinds_0 (c_isHill hL (fun q hi0 hq hx => ?_) (fun hi0 => ?_))
  · refine gX6_kinds_5 (fun z => absurd z (by decide)) (fun _ => c_isRow (fun r hi hr hy => ?_) (fun hi => ?_))
    · simp only [o_kinds, hi0, hi, o_notes] at K
      have hin : vp_in y (pm_rl 1) := by rw [hy]; exact ni_in (n := 6) hr (by omega)
      have hin2 : vp_in x (pm_rl 9) := by rw [hx]; exact ni_in (n := 6) (by omega) (by omega)
      have hsh := h.1 r hr
      refine gX6_kinds_12 (fun _ => hin) (fun _ => ?_) (fun z => absurd z (by decide))
      rw [hy, ra_row hr]
      refine c_notesFault (kd_row hr) hsh ?_
      rw [← hy]
      have bad : ∀ f, f ≠ 0 → f ≤ 5 → okC (-3, find S f) m Q → pm_G (d + 5) mX6_kinds 26 [some (.ref 0), some (.int x), some (.int y), l3, l4, l5] [.int (nI f)] m Q := by
        intro f h0 h5 K
        exact gX6_kinds_26 (fun z => absurd ((ni_eq (b := 0) (by omega) (by omega)).mp z) h0) (fun _ => c_refuse (by omega) h5 h (fun m' g1 g2 => gX6_kinds_36 (K m' g1 g2)))
      cases ho : sR S r with
      | none => rw [ho] at K; exact bad 1 (by omega) (by omega) K
      | some l =>
        simp only [ho] at K
        by_cases hf : noteF (some l) = 0
        · rw [if_pos hf] at K
          rw [hf]
          rw [ho] at hsh
          obtain ⟨e1, e2⟩ := noteF_0 hf
          obtain ⟨g0, g1, g2, g3, g4, g5, g6⟩ := hL.2.2 q hq
          have loop : ∀ (n i : Nat), i + n = 6 → pm_G (d + 5) mX6_kinds 43 [some (.ref 0), some (.int x), some (.int y), some (.int (nI 0)), some (.int (nI (mkS (fun k => fitsN S l (sS S).1 q k) i))), some (.int (nI i))] [] m Q := by
            intro n
            induction n with
            | zero =>
              intro i hi
              have hi2 : i = 6 := by omega
              subst hi2
              exact gX6_kinds_43 (fun z => absurd (by decide) z) (fun z => absurd (by decide) z) (fun _ => K m h (ag_refl _ _)) (fun z => absurd (by decide) z)
            | succ n ih =>
              intro i hi
              have nx := ih (i + 1) (by omega)
              refine gX6_kinds_43 (fun _ => hin) (fun _ => hin2) (fun z => absurd z (n6 (by omega))) (fun _ => ?_)
              rw [hx, hy, ra_hill (by omega), ra_row hr]
              refine c_fits (kd_row hr) (kd_hill (by omega)) rfl hsh e1 e2 g1 g2 hC.1 hC.2.2.2.2.2.1 (by omega) g6 (show i < 6 by omega) ?_
              rw [← hx, ← hy]
              have lt := mkS_lt (fun k => fitsN S l (sS S).1 q k) i
              cases hb : fitB i ((sL S).2 q).2.1 ((sL S).2 q).2.2 (sS S).1 l (l.length / 2) with
              | false =>
                refine gX6_kinds_77 (fun _ => ?_) (fun z => absurd rfl z)
                rw [nI_1]
                simp only [mkS, fitsN, hb] at nx
                simpa [fitsN] using nx
              | true =>
                refine gX6_kinds_77 (fun z => absurd z (by decide)) (fun _ => ?_)
                rw [nI_1, ni_shl i (by omega), ni_or, or_add lt]
                simp only [mkS, fitsN, hb] at nx
                simpa [fitsN] using nx
          exact gX6_kinds_26 (fun _ => loop 6 0 (by omega)) (fun z => absurd rfl z)
        · rw [if_neg hf] at K
          exact bad _ hf (noteF_le _) K
    · simp only [o_kinds, hi0, hi] at K
      exact gX6_kinds_12 (fun z => absurd rfl z) (fun z => absurd rfl z) (fun _ => K m h (ag_refl _ _))
  · simp only [o_kinds, hi0] at K
    exact gX6_kinds_5 (fun _ => K m h (ag_refl _ _)) (fun z => absurd rfl z)
theorem R_kinds {x y : Int32} {l3 l4 : Option Value} (h : RR S m) (K : okR (o_kinds S x y) m Q) : pm_G (d + 5) mX7_kinds 0 [some (.ref 65), some (.int x), some (.int y), l3, l4] [] m Q := by
  have hL := h.2.2.1
  have hL6 := hL.2.1
  refine gX7_kinds_0 (c7_isHill hL (fun q hi0 hq hx => ?_) (fun hi0 => ?_))
  · refine gX7_kinds_5 (fun z => absurd z (by decide)) (fun _ => c7_isRow (fun r hi hr hy => ?_) (fun hi => ?_))
    · simp only [o_kinds, hi0, hi, o_notes] at K
      refine gX7_kinds_12 (fun _ => c7_wrongNotes h hr hy ?_) (fun z => absurd z (by decide))
      have bad : ∀ f, noteF (sR S r) = f → f ≠ 0 → f ≤ 5 → okR (-3, find S f) m Q → pm_G (d + 5) mX7_kinds 22 [some (.ref 65), some (.int x), some (.int y), l3, l4] [.int (nI f)] m Q := by
        intro f hf h0 h5 K
        refine gX7_kinds_22 (fun z => absurd ((ni_eq (b := 0) (by omega) (by omega)).mp z) h0) (fun _ => c7_wrongNotes h hr hy (gX7_kinds_31 ?_))
        rw [hf]
        exact c7_find (by omega) h5 h (fun m' g1 g2 => gX7_kinds_34 (K m' g1 g2))
      cases ho : sR S r with
      | none => rw [ho] at K bad; exact bad 1 rfl (by omega) (by omega) K
      | some l =>
        simp only [ho] at K bad
        by_cases hf : noteF (some l) = 0
        · rw [if_pos hf] at K
          rw [hf]
          obtain ⟨e1, e2⟩ := noteF_0 hf
          refine gX7_kinds_22 (fun _ => c7_asideS h (fun m' h' hG hA hb => gX7_kinds_39 ?_)) (fun z => absurd rfl z)
          have loop : ∀ (n i : Nat), i + n = 6 → pm_G (d + 5) mX7_kinds 44 [some (.ref 65), some (.int x), some (.int y), some (.int (nI (mkS (fun k => fitsN S l (sS S).1 q k) i))), some (.int (nI i))] [] m' Q := by
            intro n
            induction n with
            | zero =>
              intro i hi
              have hi2 : i = 6 := by omega
              subst hi2
              exact gX7_kinds_44 (fun _ => K m' h' hb) (fun z => absurd (by decide) z)
            | succ n ih =>
              intro i hi
              have nx := ih (i + 1) (by omega)
              refine gX7_kinds_44 (fun z => absurd z (n6 (by omega))) (fun _ => ?_)
              refine c7_areNotes h' hr hy hq hx ho e1 e2 hG.1 hG.2.1 (show i < 6 by omega) ?_
              have lt := mkS_lt (fun k => fitsN S l (sS S).1 q k) i
              cases hb : fitB i ((sL S).2 q).2.1 ((sL S).2 q).2.2 (sS S).1 l (l.length / 2) with
              | false =>
                refine gX7_kinds_60 (fun _ => ?_) (fun z => absurd rfl z)
                rw [nI_1]
                simp only [mkS, fitsN, hb] at nx
                simpa [fitsN] using nx
              | true =>
                refine gX7_kinds_60 (fun z => absurd z (by decide)) (fun _ => ?_)
                rw [nI_1, ni_shl i (by omega), ni_or, or_add lt]
                simp only [mkS, fitsN, hb] at nx
                simpa [fitsN] using nx
          exact loop 6 0 (by omega)
        · rw [if_neg hf] at K
          exact bad _ rfl hf (noteF_le _) K
    · simp only [o_kinds, hi0, hi] at K
      exact gX7_kinds_12 (fun z => absurd rfl z) (fun _ => K m h (ag_refl _ _))
  · simp only [o_kinds, hi0] at K
    exact gX7_kinds_5 (fun _ => K m h (ag_refl _ _)) (fun z => absurd rfl z)
end KINDS

/-! from which hills, of which kinds -/
def fitsN (S : Sg) (l g : List Int32) (q k : Nat) : Bool := fitB k ((sL S).2 q).2.1 ((sL S).2 q).2.2 g l (l.length / 2)
def o_notes (S : Sg) (r : Nat) (f : List Int32 → Int32) : Int32 × Sg := match sR S r with
  | none => (-3, find S 1)
  | some l => if noteF (some l) = 0 then (f l, S) else (-3, find S (noteF (some l)))
def o_from (S : Sg) (x : Int32) : Int32 × Sg := match idx 6 x with
  | none => (-1, S)
  | some r => o_notes S r (fun l => nI (mkS (fun q => fitsN S l (sS S).1 q ((sL S).2 q).1) (sL S).1))
def o_kinds (S : Sg) (x y : Int32) : Int32 × Sg := match idx (sL S).1 x with
  | none => (-1, S)
  | some q => match idx 6 y with
    | none => (-1, S)
    | some r => o_notes S r (fun l => nI (mkS (fun k => fitsN S l (sS S).1 q k) 6))
theorem noteF_le (o : Option (List Int32)) : noteF o ≤ 5 := by
  unfold noteF
  split
  · omega
  · split
    · omega
    · split <;> omega
theorem noteF_0 {l : List Int32} (h : noteF (some l) = 0) : l.length % 2 = 0 ∧ noteB l (l.length / 2) = true := by
  simp only [noteF] at h
  by_cases c : 16 < l.length ∨ l.length % 2 ≠ 0
  · rw [if_pos c] at h; omega
  · rw [if_neg c] at h
    by_cases e : noteB l (l.length / 2) = true
    · exact ⟨by omega, e⟩
    · rw [if_neg e] at h; omega
section FROM
variable {d : Nat} {m : pmMem} {Q : Option Value → pmMem → Prop} {S : Sg}
theorem C_from {x : Int32} {l2 l3 l4 l5 : Option Value} (h : RC S m) (K : okC (o_from S x) m Q) : pm_G (d + 5) mX6_from 0 [some (.ref 0), some (.int x), l2, l3, l4, l5] [] m Q := by
  have hL := h.2.2.1
  have hL6 := hL.2.1
  have hC := h.2.2.2.1.1
  refine gX6_from_0 (c_isRow (fun r hi hr hx => ?_) (fun hi => ?_))
  · simp only [o_from, hi, o_notes] at K
    have hin : vp_in x (pm_rl 1) := by rw [hx]; exact ni_in (n := 6) hr (by omega)
    have hsh := h.1 r hr
    refine gX6_from_4 (fun _ => hin) (fun _ => ?_) (fun z => absurd z (by decide))
    rw [hx, ra_row hr]
    refine c_notesFault (kd_row hr) hsh ?_
    rw [← hx]
    have bad : ∀ f, f ≠ 0 → f ≤ 5 → okC (-3, find S f) m Q → pm_G (d + 5) mX6_from 18 [some (.ref 0), some (.int x), l2, l3, l4, l5] [.int (nI f)] m Q := by
      intro f h0 h5 K
      exact gX6_from_18 (fun z => absurd ((ni_eq (b := 0) (by omega) (by omega)).mp z) h0) (fun _ => c_refuse (by omega) h5 h (fun m' g1 g2 => gX6_from_28 (K m' g1 g2)))
    cases ho : sR S r with
    | none => rw [ho] at K; exact bad 1 (by omega) (by omega) K
    | some l =>
      simp only [ho] at K
      by_cases hf : noteF (some l) = 0
      · rw [if_pos hf] at K
        rw [hf]
        rw [ho] at hsh
        obtain ⟨e1, e2⟩ := noteF_0 hf
        have loop : ∀ (n i : Nat) (l5 : Option Value), i + n = (sL S).1 → pm_G (d + 5) mX6_from 34 [some (.ref 0), some (.int x), some (.int (nI 0)), some (.int (nI (mkS (fun q => fitsN S l (sS S).1 q ((sL S).2 q).1) i))), some (.int (nI i)), l5] [] m Q := by
          intro n
          induction n with
          | zero =>
            intro i l5 hi
            have hi2 : i = (sL S).1 := by omega
            subst hi2
            have le : m.1 8 1 ≤ nI (sL S).1 := by rw [hL.1]; exact Int32.le_refl _
            exact gX6_from_34 (fun z => absurd le z) (fun z => absurd le z) (fun _ => K m h (ag_refl _ _)) (fun z => absurd le z)
          | succ n ih =>
            intro i l5 hi
            have n1 : ¬ m.1 8 1 ≤ nI i := by
              rw [hL.1]
              intro z
              have := (ni_le (by omega) (by omega)).mp z
              omega
            obtain ⟨g0, g1, g2, g3, g4, g5, g6⟩ := hL.2.2 i (by omega)
            have nx := fun l5 => ih (i + 1) l5 (by omega)
            refine gX6_from_34 (fun _ => ni_in (n := 6) (by omega) (by omega)) (fun _ => hin) (fun z => absurd z n1) (fun _ => ?_)
            rw [ra_hill (by omega), g0, hx, ra_row hr]
            refine c_fits (kd_row hr) (kd_hill (by omega)) rfl hsh e1 e2 g1 g2 hC.1 hC.2.2.2.2.2.1 (by omega) g6 g3 ?_
            rw [← hx]
            have lt := mkS_lt (fun q => fitsN S l (sS S).1 q ((sL S).2 q).1) i
            cases hb : fitB ((sL S).2 i).1 ((sL S).2 i).2.1 ((sL S).2 i).2.2 (sS S).1 l (l.length / 2) with
            | false =>
              refine gX6_from_81 (fun _ => ?_) (fun z => absurd rfl z)
              rw [nI_1]
              have := nx (some (.ref (10 + i)))
              simp only [mkS, fitsN, hb] at this
              simpa [fitsN] using this
            | true =>
              refine gX6_from_81 (fun z => absurd z (by decide)) (fun _ => ?_)
              rw [nI_1, ni_shl i (by omega), ni_or, or_add lt]
              have := nx (some (.ref (10 + i)))
              simp only [mkS, fitsN, hb] at this
              simpa [fitsN] using this
        exact gX6_from_18 (fun _ => loop (sL S).1 0 _ (by omega)) (fun z => absurd rfl z)
      · rw [if_neg hf] at K
        exact bad _ hf (noteF_le _) K
  · simp only [o_from, hi] at K
    exact gX6_from_4 (fun z => absurd rfl z) (fun z => absurd rfl z) (fun _ => K m h (ag_refl _ _))
end FROM

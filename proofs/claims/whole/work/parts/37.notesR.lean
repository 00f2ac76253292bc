section NOTESR
variable {d : Nat} {m : pmMem} {Q : Option Value → pmMem → Prop} {S : Sg}
theorem i32_lt0 {x : Int32} (h : x < 0) : ¬ 0 ≤ x := by
  rw [Int32.lt_iff_toInt_lt] at h
  rw [Int32.le_iff_toInt_le]
  omega
theorem c7_wrongNotes {r : Nat} {x : Int32} {l2 : Option Value} (h : RR S m) (hr : r < 6) (hx : x = nI r) (K : Q (some (.int (nI (noteF (sR S r))))) m) : pm_G (d + 2) mX7_wrongNotes 0 [some (.ref 65), some (.int x), l2] [] m Q := by
  obtain ⟨q1, q2, q3⟩ := h.1
  have hin : vp_in x (m.2.1 67).length := by rw [hx, q2]; exact ni_in hr (by omega)
  have hcl : x.toNatClampNeg = r := by rw [hx]; exact ni_cl (by omega)
  have g := q3 r hr
  cases ho : sR S r with
  | none =>
    rw [ho] at g K
    have g : (m.2.1 67).getD r 0 = -1 := g
    refine gX7_wrongNotes_0 (fun _ => hin) (fun _ _ => hin) (fun _ _ _ => hin) (fun _ _ => hin) (fun _ => hin) hin ?_ ?_ ?_ ?_ ?_ ?_ ?_ <;> rw [hcl, g]
    · intro _ z; exact absurd z (by decide)
    · intro _ _; exact K
    · intro z; exact absurd (by decide) z
    · intro z; exact absurd (by decide) z
    · intro z; exact absurd (by decide) z
    · intro z; exact absurd (by decide) z
    · intro z; exact absurd (by decide) z
  | some l =>
    rw [ho] at g K
    have gl := g.2.1
    simp only [noteF] at K
    have np : ¬ nI l.length < 0 := nI_pos (by omega)
    have n0 : (0 : Int32) ≤ nI l.length := i0le (by omega)
    have e16 : ((16 : Int32) < nI l.length) ↔ 16 < l.length := ni_lt (a := 16) (by omega) (by omega)
    have er : nI l.length - nI l.length / 2 * 2 = nI (l.length % 2) := pk_rem (d := 2) (by omega) (by omega) (by omega)
    have er0 : (nI (l.length % 2) = 0) ↔ l.length % 2 = 0 := ni_eq (b := 0) (by omega) (by omega)
    refine gX7_wrongNotes_0 (fun _ => hin) (fun _ _ => hin) (fun _ _ _ => hin) (fun _ _ => hin) (fun _ => hin) hin ?_ ?_ ?_ ?_ ?_ ?_ ?_ <;> rw [hcl, g.1] <;> try simp only [er, er0, e16]
    · intro z; exact absurd z np
    · intro z; exact absurd z np
    · intro _ z _; rw [if_pos (Or.inl z)] at K; exact K
    · intro _ _ z; exact absurd n0 z
    · intro _ z z2
      rw [if_neg (by omega)] at K
      have ix : ∀ i, i < l.length → ((40 : Int32) * x) + nI i = nI (40 * r + i) := fun i hi => by rw [hx]; exact g_ix (cap := 40) (by omega) hr (by omega)
      have loop : ∀ (n i : Nat), i + n = l.length / 2 → noteB l i = true → pm_G (d + 2) mX7_wrongNotes 48 [some (.ref 65), some (.int x), some (.int (nI (2 * i)))] [] m Q := by
        intro n
        induction n with
        | zero =>
          intro i hi hb
          have hi2 : i = l.length / 2 := by omega
          subst hi2
          rw [if_pos hb] at K
          have le : nI l.length ≤ nI (2 * (l.length / 2)) := (ni_le (by omega) (by omega)).mpr (by omega)
          refine gX7_wrongNotes_48 ?_ hin ?_ ?_ <;> rw [hcl, g.1]
          · intro z; exact absurd le z
          · intro _; exact K
          · intro z; exact absurd le z
        | succ n ih =>
          intro i hi hb
          have e : (nI l.length ≤ nI (2 * i)) ↔ l.length ≤ 2 * i := ni_le (by omega) (by omega)
          have bad : (idx 100 (l.getD (2 * i) 0) = none ∨ idx 3 (l.getD (2 * i + 1) 0) = none) → Q (some (.int 3)) m := by
            intro hn
            rw [if_neg (by rw [noteB_no hn _ (show i < l.length / 2 by omega)]; decide)] at K
            exact K
          refine gX7_wrongNotes_48 ?_ hin ?_ ?_ <;> rw [hcl, g.1, e]
          · intro _; rw [ix _ (by omega), q1]; exact ni_in (by omega) (by omega)
          · intro z; omega
          · intro _
            rw [ix _ (by omega), ni_cl (by omega), g.2.2 _ (by omega)]
            refine c7_in0 (n := 100) (x := l.getD (2 * i) 0) (by omega) (t64 _) rfl rfl (fun t ht _ _ => ?_) (fun ht => ?_)
            · have ix2 : ((40 : Int32) * x) + nI (2 * i) + 1 = nI (40 * r + (2 * i + 1)) := by rw [ix _ (by omega), nI_1]; rfl
              refine gX7_wrongNotes_77 (fun _ => by rw [ix2, q1]; exact ni_in (by omega) (by omega)) (fun z => absurd z (by decide)) (fun _ => ?_)
              rw [ix2, ni_cl (by omega), g.2.2 _ (by omega)]
              refine c7_in0 (n := 3) (x := l.getD (2 * i + 1) 0) (by omega) (t64 _) rfl rfl (fun w hw _ _ => ?_) (fun hw => ?_)
              · refine gX7_wrongNotes_101 (fun _ => ?_) (fun z => absurd z (by decide))
                rw [show nI (2 * i) + 2 = nI (2 * (i + 1)) from nI_add (2 * i) 2]
                exact ih (i + 1) (by omega) (by simp only [noteB, hb, ht, hw]; rfl)
              · exact gX7_wrongNotes_101 (fun z => absurd rfl z) (fun _ => bad (Or.inr hw))
            · exact gX7_wrongNotes_77 (fun z => absurd rfl z) (fun _ => bad (Or.inl ht)) (fun z => absurd rfl z)
      exact loop (l.length / 2) 0 (by omega) rfl
    · intro _ _ z2 _; rw [if_pos (Or.inr z2)] at K; exact K
    · intro _ _ _ z; exact absurd n0 z
theorem c7_areNotes {r q k : Nat} {x y : Int32} {g l : List Int32} {l4 l5 : Option Value} (h : RR S m) (hr : r < 6) (hx : x = nI r) (hq : q < (sL S).1) (hy : y = nI q) (ho : sR S r = some l) (hl2 : l.length % 2 = 0) (hb : noteB l (l.length / 2) = true) (hg : m.2.1 79 = g) (hgl : g.length = 12) (hk : k < 6) (K : Q (some (.int (nI (if fitB k ((sL S).2 q).2.1 ((sL S).2 q).2.2 g l (l.length / 2) then 1 else 0)))) m) : pm_G (d + 3) mX7_areNotes 0 [some (.ref 65), some (.int x), some (.int (nI k)), some (.int y), l4, l5] [] m Q := by
  obtain ⟨q1, q2, q3⟩ := h.1
  have hL := h.2.2.1
  have hL6 := hL.2.1
  obtain ⟨g0, g1, g2, g3, g4, g5, g6⟩ := hL.2.2.2.2.2 q hq
  have hin : vp_in x (m.2.1 67).length := by rw [hx, q2]; exact ni_in hr (by omega)
  have hcl : x.toNatClampNeg = r := by rw [hx]; exact ni_cl (by omega)
  have hcy : y.toNatClampNeg = q := by rw [hy]; exact ni_cl (by omega)
  have gg := q3 r hr
  rw [ho] at gg
  have gl := gg.2.1
  have ix : ∀ i, i < l.length → ((40 : Int32) * x) + nI i = nI (40 * r + i) := fun i hi => by rw [hx]; exact g_ix (cap := 40) (by omega) hr (by omega)
  have loop : ∀ (n i : Nat), i + n = l.length / 2 → pm_G (d + 3) mX7_areNotes 6 [some (.ref 65), some (.int x), some (.int (nI k)), some (.int y), some (.int (nI (if fitB k ((sL S).2 q).2.1 ((sL S).2 q).2.2 g l i then 1 else 0))), some (.int (nI (2 * i)))] [] m Q := by
    intro n
    induction n with
    | zero =>
      intro i hi
      have hi2 : i = l.length / 2 := by omega
      subst hi2
      have le : nI l.length ≤ nI (2 * (l.length / 2)) := (ni_le (by omega) (by omega)).mpr (by omega)
      refine gX7_areNotes_6 ?_ ?_ ?_ ?_ hin ?_ ?_ ?_ <;> rw [hcl, gg.1]
      · intro _; split <;> rfl
      · intro z; exact absurd le z
      · intro z; exact absurd le z
      · intro z; exact absurd le z
      · intro _; exact K
      · intro z; exact absurd le z
      · intro z; exact absurd le z
    | succ n ih =>
      intro i hi
      have e : (nI l.length ≤ nI (2 * i)) ↔ l.length ≤ 2 * i := ni_le (by omega) (by omega)
      have nx := ih (i + 1) (by omega)
      have ix2 : ((40 : Int32) * x) + nI (2 * i) + 1 = nI (40 * r + (2 * i + 1)) := by rw [ix _ (by omega), nI_1]; rfl
      obtain ⟨t, w, ht, hw⟩ := noteB_all _ hb i (by omega)
      obtain ⟨t1, t2⟩ := idx_spec (n := 100) (by omega) ht
      have e2 : nI (2 * i) + 2 = nI (2 * (i + 1)) := nI_add (2 * i) 2
      refine gX7_areNotes_6 ?_ ?_ ?_ ?_ hin ?_ ?_ ?_ <;> rw [hcl, gg.1, e]
      · intro z; omega
      · intro _ _; rw [ix _ (by omega), q1]; exact ni_in (by omega) (by omega)
      · intro _ _; rw [hy, hL.2.2.2.2.1]; exact ni_in (by omega) (by omega)
      · intro _ _; rw [hy, hL.2.2.2.1]; exact ni_in (by omega) (by omega)
      · intro z; omega
      · intro _ hz
        cases hfb : fitB k ((sL S).2 q).2.1 ((sL S).2 q).2.2 g l i with
        | true => rw [hfb] at hz; exact absurd hz (by decide)
        | false =>
          rw [show fitB k ((sL S).2 q).2.1 ((sL S).2 q).2.2 g l (i + 1) = false by simp only [fitB, hfb, Bool.false_and]] at nx
          rw [e2]; exact nx
      · intro _ hz
        cases hfb : fitB k ((sL S).2 q).2.1 ((sL S).2 q).2.2 g l i with
        | false => rw [hfb] at hz; exact absurd rfl hz
        | true =>
          rw [hcy, g1, g2, ix _ (by omega), ni_cl (by omega), gg.2.2 _ (by omega), t2]
          refine c7_sumBy hk g4 g6 (by omega) hg hgl (gX7_areNotes_51 (c7_wordOf (gX7_areNotes_54 (by rw [ix2, q1]; exact ni_in (by omega) (by omega)) ?_ ?_))) <;> rw [ix2, ni_cl (by omega), gg.2.2 _ (by omega), e2]
          · intro z
            rw [show fitB k ((sL S).2 q).2.1 ((sL S).2 q).2.2 g l (i + 1) = false by simp only [fitB, hfb, Bool.true_and]; rw [t2, ni_cl (by omega)]; exact decide_eq_false z] at nx
            exact nx
          · intro z
            rw [show fitB k ((sL S).2 q).2.1 ((sL S).2 q).2.2 g l (i + 1) = true by simp only [fitB, hfb, Bool.true_and]; rw [t2, ni_cl (by omega)]; exact decide_eq_true z] at nx
            exact nx
  exact gX7_areNotes_0 (loop (l.length / 2) 0 (by omega))
end NOTESR

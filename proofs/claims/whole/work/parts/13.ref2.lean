section REF2
variable {d : Nat} {m : pmMem} {Q : Option Value → pmMem → Prop} {L : Ld} {s : Cs}
theorem ni_m1 (s : Nat) : nI s &&& (-1) = nI s := by
  apply Int32.toBitVec_inj.1
  show (nI s).toBitVec &&& (-1 : Int32).toBitVec = _
  rw [show (-1 : Int32).toBitVec = BitVec.allOnes 32 from by decide, BitVec.and_allOnes]
theorem l7_seenBy {k f b : Nat} {x3 x4 : Int32} {g : List Int32} {v : Nat → Bool} (hv : ∀ j, j < f → v j = false) (hk : k < 6) (hf : f < 12) (hg : m.2.1 79 = g) (hgl : g.length = 12) (K : Q (some (.int (nI (mkS (fun j => v j && !passB k f g j) 12)))) m) :
    ∀ (n i : Nat) (l7 : Option Value), i + n = 12 → pm_G (d + 1) mX7_seenBy 30 [some (.ref 65), some (.int (nI k)), some (.int (nI f)), some (.int x3), some (.int x4), some (.int (nI (mkS (fun j => v j && !(decide (j < i) && passB k f g j)) 12))), some (.int (nI i)), l7] [] m Q := by
  intro n
  induction n with
  | zero =>
    intro i l7 hi
    have h12 : i = 12 := by omega
    subst h12
    refine gX7_seenBy_30 (fun _ => q_eq K (congrArg nI (mkS_congr 12 (fun j hj => by simp [hj])))) (fun h => absurd (by decide) h)
  | succ n ih =>
    intro i l7 hi
    have hi12 : i < 12 := by omega
    have n1 : ¬ (12 : Int32) ≤ nI i := fun z => by
      have := (ni_le (a := 12) (by omega) (by omega)).mp z
      omega
    have keep : (passB k f g i = false ∨ v i = false) → ∀ l7, pm_G (d + 1) mX7_seenBy 30 [some (.ref 65), some (.int (nI k)), some (.int (nI f)), some (.int x3), some (.int x4), some (.int (nI (mkS (fun j => v j && !(decide (j < i) && passB k f g j)) 12) &&& (-1))), some (.int (nI i + 1)), l7] [] m Q := by
      intro hp l7
      rw [ni_m1, nI_1]
      have := ih (i + 1) l7 (by omega)
      have e : mkS (fun j => v j && !(decide (j < i + 1) && passB k f g j)) 12 = mkS (fun j => v j && !(decide (j < i) && passB k f g j)) 12 := by
        refine mkS_congr 12 (fun j hj => ?_)
        by_cases h : j = i
        · subst h
          rcases hp with hp | hp <;> simp [hp]
        · by_cases h2 : j < i
          · have : j < i + 1 := by omega
            simp [h2, this]
          · have : ¬ j < i + 1 := by omega
            simp [h2, this]
      rw [e] at this
      exact this
    have drop : (passB k f g i = true ∨ v i = false) → ∀ l7, pm_G (d + 1) mX7_seenBy 30 [some (.ref 65), some (.int (nI k)), some (.int (nI f)), some (.int x3), some (.int x4), some (.int (nI (mkS (fun j => v j && !(decide (j < i) && passB k f g j)) 12) &&& ((1 <<< (nI i &&& 31)) ^^^ (-1)))), some (.int (nI i + 1)), l7] [] m Q := by
      intro hp l7
      rw [ni_shl i (by omega), ni_andn, dif_pow _ rfl hi12, nI_1]
      have := ih (i + 1) l7 (by omega)
      have e : mkS (fun j => v j && !(decide (j < i + 1) && passB k f g j)) 12 = mkS (fun j => (v j && !(decide (j < i) && passB k f g j)) && !decide (j = i)) 12 := by
        refine mkS_congr 12 (fun j hj => ?_)
        by_cases h : j = i
        · subst h
          rcases hp with hp | hp <;> simp [hp]
        · by_cases h2 : j < i
          · have : j < i + 1 := by omega
            simp [h2, this, h]
          · have : ¬ j < i + 1 := by omega
            simp [h2, this, h]
      rw [e] at this
      exact this
    have hcl := ni_cl (i := i) (by omega)
    have par : f ≤ i → (nI i - nI f) - (nI i - nI f) / 2 * 2 = nI ((i - f) % 2) := by
      intro hfi
      rw [pk_sub hfi]
      exact pk_rem (d := 2) (by omega) (by omega) (by omega)
    have wood : (isBa k && !decide ((i - f) % 2 = 0)) = false ∨ v i = false → pm_G d mX7_isWooded 0 [some (.int (nI k))] [] m (fun r m' => pm_G (d + 1) mX7_seenBy 57 [some (.ref 65), some (.int (nI k)), some (.int (nI f)), some (.int x3), some (.int x4), some (.int (nI (mkS (fun j => v j && !(decide (j < i) && passB k f g j)) 12))), some (.int (nI i)), l7] (pm_psh r []) m' Q) := by
      intro hb
      refine c7_isWooded hk ?_
      refine gX7_seenBy_57 (fun _ => ?_) ?_ ?_ ?_
      · rw [hg, hgl]; exact ni_in hi12 (by omega)
      · intro h
        have hw : isWo k = false := by
          cases z : isWo k
          · rfl
          · rw [z] at h; exact absurd h (by decide)
        refine keep ?_ _
        rcases hb with hb | hb
        · exact Or.inl (by rw [passB, hb, hw]; rfl)
        · exact Or.inr hb
      · intro h h2
        rw [hcl, hg] at h2
        refine keep ?_ _
        rcases hb with hb | hb
        · exact Or.inl (by rw [passB, hb, decide_eq_false (Int32.not_lt.mpr h2)]; simp)
        · exact Or.inr hb
      · intro h h2 v1 ev
        rw [hcl, hg] at h2
        have hw : isWo k = true := by
          cases z : isWo k
          · rw [z] at h; exact absurd rfl h
          · rfl
        rw [ev]
        exact drop (Or.inl (by rw [passB, hw, decide_eq_true (Int32.not_le.mp h2)]; simp)) _
    refine gX7_seenBy_30 (fun h => absurd h n1) (fun _ => ?_)
    refine c7_isBare hk ?_
    refine gX7_seenBy_41 ?_ ?_ ?_
    · intro h
      have hb : isBa k = false := by
        cases z : isBa k
        · rfl
        · rw [z] at h; exact absurd h (by decide)
      exact wood (Or.inl (by rw [hb]; rfl))
    · intro h h2 v1 ev
      have hb : isBa k = true := by
        cases z : isBa k
        · rw [z] at h; exact absurd rfl h
        · rfl
      rw [ev]
      by_cases hfi : f ≤ i
      · rw [par hfi] at h2
        have h2 := ni_ne (n := 0) h2
        exact drop (Or.inl (by rw [passB, hb, decide_eq_false h2]; rfl)) _
      · exact drop (Or.inr (hv i (by omega))) _
    · intro h h2
      by_cases hfi : f ≤ i
      · rw [par hfi] at h2
        have h2 : (i - f) % 2 = 0 := (ni_eq (by omega) (by omega)).mp h2
        exact wood (Or.inl (by rw [decide_eq_true h2]; simp))
      · exact wood (Or.inr (hv i (by omega)))
theorem c7_seenBy {k f b dy : Nat} {g : List Int32} {l5 l6 l7 : Option Value} (hk : k < 6) (hf : f < 12) (hb : b ≤ 9) (hd : dy < 1000) (hg : m.2.1 79 = g) (hgl : g.length = 12) (K : Q (some (.int (nI (seenS k f b g dy)))) m) : pm_G (d + 1) mX7_seenBy 0 [some (.ref 65), some (.int (nI k)), some (.int (nI f)), some (.int (nI b)), some (.int (nI dy)), l5, l6, l7] [] m Q := by
  have z3 : (nI k = 3) ↔ k = 3 := ni_eq (b := 3) (by omega) (by omega)
  have e2 : nI dy - nI dy / 2 * 2 = nI (dy % 2) := pk_rem (d := 2) (by omega) (by omega) (by omega)
  have z1 : (nI (dy % 2) = 1) ↔ dy % 2 = 1 := ni_eq (b := 1) (by omega) (by omega)
  have e3 : nI b / 2 = nI (b / 2) := pk_div (d := 2) (by omega) (by omega) (by omega)
  have go : ∀ b', b' ≤ 9 → (if k = 3 ∧ dy % 2 = 1 then b / 2 else b) = b' → pm_G d mX7_view 0 [some (.int (nI k)), some (.int (nI f)), some (.int (nI b')), none, none] [] m (fun r m' => pm_G (d + 1) mX7_seenBy 25 [some (.ref 65), some (.int (nI k)), some (.int (nI f)), some (.int (nI b)), some (.int (nI dy)), l5, l6, l7] (pm_psh r []) m' Q) := by
    intro b' hb' he
    refine c7_view hk hf hb' (gX7_seenBy_25 ?_)
    have := l7_seenBy (d := d) (m := m) (Q := Q) (b := b) (x3 := nI b) (x4 := nI dy) (v := viewB k f b') (fun j hj => by
      have : ¬ f ≤ j := by omega
      simp [viewB, this]) hk hf hg hgl (by rw [← he, seen_pass]; exact K) 12 0 l7 rfl
    have e0 : mkS (fun j => viewB k f b' j && !(decide (j < 0) && passB k f g j)) 12 = mkS (viewB k f b') 12 := mkS_congr 12 (fun j _ => by simp)
    rw [e0] at this
    exact this
  refine gX7_seenBy_0 ?_ ?_ ?_ <;> simp only [z3, e2, z1, e3]
  · intro h; exact go b hb (if_neg (fun z => h z.1))
  · intro h1 h2; exact go b hb (if_neg (fun z => h2 z.2))
  · intro h1 h2; exact go (b / 2) (by omega) (if_pos ⟨h1, h2⟩)
theorem c7_sumBy {k f b dy : Nat} {g : List Int32} {l5 l6 l7 : Option Value} (hk : k < 6) (hf : f < 12) (hb : b ≤ 9) (hd : dy < 1000) (hg : m.2.1 79 = g) (hgl : g.length = 12) (K : Q (some (.int (sumS k f b g dy))) m) : pm_G (d + 2) mX7_sumBy 0 [some (.ref 65), some (.int (nI k)), some (.int (nI f)), some (.int (nI b)), some (.int (nI dy)), l5, l6, l7] [] m Q := by
  have z5 : (nI k = 5) ↔ k = 5 := ni_eq (b := 5) (by omega) (by omega)
  have sl := seenS_lt k f b g dy
  refine gX7_sumBy_0 (c7_seenBy hk hf hb hd hg hgl (gX7_sumBy_9 ?_))
  have loop : ∀ (n i : Nat), i + n = 12 → pm_G (d + 2) mX7_sumBy 17 [some (.ref 65), some (.int (nI k)), some (.int (nI f)), some (.int (nI b)), some (.int (nI dy)), some (.int (nI (seenS k f b g dy))), some (.int (sumL k (seenS k f b g dy) g i)), some (.int (nI i))] [] m Q := by
    intro n
    induction n with
    | zero =>
      intro i hi
      have h12 : i = 12 := by omega
      subst h12
      exact gX7_sumBy_17 (fun _ => K) (fun h => absurd (by decide) h)
    | succ n ih =>
      intro i hi
      have hi12 : i < 12 := by omega
      have n1 : ¬ (12 : Int32) ≤ nI i := fun z => by
        have := (ni_le (a := 12) (by omega) (by omega)).mp z
        omega
      have nx := ih (i + 1) (by omega)
      have hin : vp_in (nI i) (m.2.1 79).length := by rw [hg, hgl]; exact ni_in hi12 (by omega)
      have hcl := ni_cl (i := i) (by omega)
      refine gX7_sumBy_17 (fun h => absurd h n1) (fun _ => c7_has sl hi12 ?_)
      refine gX7_sumBy_33 (fun _ _ => hin) (fun _ _ => hin) ?_ ?_ ?_
      · intro h1 h2 v1 ev
        have hb : (seenS k f b g dy).testBit i = true := by
          by_cases z : (seenS k f b g dy).testBit i = true
          · exact z
          · rw [if_neg z] at h1; exact absurd rfl h1
        rw [nI_1, ev, hcl, hg]
        simp only [sumL, hb, if_true] at nx
        rw [if_neg (fun z => h2 (z5.mpr z))] at nx
        exact nx
      · intro h1 h2 v1 ev
        have hb : (seenS k f b g dy).testBit i = true := by
          by_cases z : (seenS k f b g dy).testBit i = true
          · exact z
          · rw [if_neg z] at h1; exact absurd rfl h1
        rw [nI_1, ev, hcl, hg]
        simp only [sumL, hb, if_true] at nx
        rw [if_pos (z5.mp h2)] at nx
        exact nx
      · intro h1
        have hb : ¬ (seenS k f b g dy).testBit i = true := by
          intro z
          rw [if_pos z] at h1; exact absurd h1 (by decide)
        rw [nI_1]
        simp only [sumL] at nx
        rw [if_neg hb] at nx
        exact nx
  exact loop 12 0 rfl
/-- the reference's scratch: what is given, the marks -/
def marksL (s : Cs) : List Int32 := (List.range 12).map (fun i => nI (fateC s i))
def asideM (s : Cs) (m : pmMem) : Prop := m.2.1 79 = s.1 ∧ m.2.1 80 = marksL s ∧ csOk s
theorem c7_seenFrom {h dy : Nat} {g : List Int32} (hL : landR L m) (hg : m.2.1 79 = g) (hgl : g.length = 12) (hh : h < L.1) (hd : dy < 1000) (K : Q (some (.int (nI (seenS (L.2 h).1 (L.2 h).2.1 (L.2 h).2.2 g dy)))) m) : pm_G (d + 2) mX7_seenFrom 0 [some (.ref 65), some (.int (nI h)), some (.int (nI dy))] [] m Q := by
  obtain ⟨q1, q2, q3, q4, q5, q6⟩ := hL
  obtain ⟨r1, r2, r3, r4, r5, r6, r7⟩ := q6 h hh
  have hcl := ni_cl (i := h) (by omega)
  refine gX7_seenFrom_0 (by rw [q5]; exact ni_in (by omega) (by omega)) (by rw [q4]; exact ni_in (by omega) (by omega)) (by rw [q3]; exact ni_in (by omega) (by omega)) ?_
  rw [hcl, r1, r2, r3]
  exact c7_seenBy r4 r5 r7 hd hg hgl (gX7_seenFrom_23 K)
theorem c7_sumFrom {h dy : Nat} {g : List Int32} (hL : landR L m) (hg : m.2.1 79 = g) (hgl : g.length = 12) (hh : h < L.1) (hd : dy < 1000) (K : Q (some (.int (sumS (L.2 h).1 (L.2 h).2.1 (L.2 h).2.2 g dy))) m) : pm_G (d + 3) mX7_sumFrom 0 [some (.ref 65), some (.int (nI h)), some (.int (nI dy))] [] m Q := by
  obtain ⟨q1, q2, q3, q4, q5, q6⟩ := hL
  obtain ⟨r1, r2, r3, r4, r5, r6, r7⟩ := q6 h hh
  have hcl := ni_cl (i := h) (by omega)
  refine gX7_sumFrom_0 (by rw [q5]; exact ni_in (by omega) (by omega)) (by rw [q4]; exact ni_in (by omega) (by omega)) (by rw [q3]; exact ni_in (by omega) (by omega)) ?_
  rw [hcl, r1, r2, r3]
  exact c7_sumBy r4 r5 r7 hd hg hgl (gX7_sumFrom_23 K)
theorem c7_wordFrom {h dy : Nat} {g : List Int32} (hL : landR L m) (hg : m.2.1 79 = g) (hgl : g.length = 12) (hh : h < L.1) (hd : dy < 1000) (K : Q (some (.int (nI (wordI (sumS (L.2 h).1 (L.2 h).2.1 (L.2 h).2.2 g dy))))) m) : pm_G (d + 4) mX7_wordFrom 0 [some (.ref 65), some (.int (nI h)), some (.int (nI dy))] [] m Q :=
  gX7_wordFrom_0 (c7_sumFrom hL hg hgl hh hd (gX7_wordFrom_6 (c7_wordOf (gX7_wordFrom_9 K))))
end REF2

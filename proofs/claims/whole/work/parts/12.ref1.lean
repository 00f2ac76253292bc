/-! the reference: what is seen -/
def landR (L : Ld) (m : pmMem) : Prop := m.1 65 4 = nI L.1 ∧ L.1 ≤ 6 ∧ (m.2.1 70).length = 6 ∧ (m.2.1 71).length = 6 ∧ (m.2.1 72).length = 6 ∧ ∀ h, h < L.1 → (m.2.1 70).getD h 0 = nI (L.2 h).1 ∧ (m.2.1 71).getD h 0 = nI (L.2 h).2.1 ∧ (m.2.1 72).getD h 0 = nI (L.2 h).2.2 ∧ (L.2 h).1 < 6 ∧ (L.2 h).2.1 < 12 ∧ 1 ≤ (L.2 h).2.2 ∧ (L.2 h).2.2 ≤ 9
theorem landR_ag {L : Ld} {S : Nat → Prop} {m m' : pmMem} (h : landR L m) (ha : ag S m m') (h65 : m'.1 65 4 = m.1 65 4) (hS : ∀ c, 70 ≤ c → c < 73 → ¬ S c) : landR L m' := by
  obtain ⟨h1, h2, h3, h4, h5, h6⟩ := h
  have e0 := (ha 70 (hS 70 (by omega) (by omega))).2.1
  have e1 := (ha 71 (hS 71 (by omega) (by omega))).2.1
  have e2 := (ha 72 (hS 72 (by omega) (by omega))).2.1
  exact ⟨h65.trans h1, h2, by rw [e0]; exact h3, by rw [e1]; exact h4, by rw [e2]; exact h5, by rw [e0, e1, e2]; exact h6⟩
theorem dif_pow {s i : Nat} (p : Nat → Bool) (hs : s = mkS p 12) (hi : i < 12) : dif s (2 ^ i) = mkS (fun j => p j && !decide (j = i)) 12 := by
  apply Nat.eq_of_testBit_eq
  intro t
  rw [dif_bit, hs, mkS_bit, mkS_bit, Nat.testBit_two_pow]
  by_cases h1 : t = i
  · subst h1; simp
  · have : ¬ i = t := fun z => h1 z.symm
    simp [h1, this]
section REF1
variable {d : Nat} {m : pmMem} {Q : Option Value → pmMem → Prop} {L : Ld} {s : Cs}
theorem c7_has {s i : Nat} (hs : s < 4096) (hi : i < 12) (K : Q (some (.int (nI (if s.testBit i then 1 else 0)))) m) : pm_G d mX7_has 0 [some (.int (nI s)), some (.int (nI i))] [] m Q := by
  refine gX7_has_0 ?_ ?_
  · intro h
    rw [ni_bit (by omega) (by omega)] at h
    by_cases z : s.testBit i
    · rw [if_pos z] at h; exact absurd rfl h
    · rw [if_neg z] at K; exact K
  · intro h
    rw [ni_bit (by omega) (by omega)] at h
    by_cases z : s.testBit i
    · rw [if_pos z] at K; exact K
    · rw [if_neg z] at h; exact absurd h (by decide)
theorem c7_isBare {k : Nat} (hk : k < 6) (K : Q (some (.int (nI (if isBa k then 1 else 0)))) m) : pm_G d mX7_isBare 0 [some (.int (nI k))] [] m Q := by
  have E : ∀ {b : Nat}, b < 6 → (nI k = nI b ↔ k = b) := fun hb => ni_eq (by omega) (by omega)
  have z1 : (nI k = 1) ↔ k = 1 := E (b := 1) (by omega)
  have z4 : (nI k = 4) ↔ k = 4 := E (b := 4) (by omega)
  refine gX7_isBare_0 ?_ ?_ ?_ <;> simp only [z1, z4]
  · intro h; rw [show isBa k = true by simp [isBa, h]] at K; exact K
  · intro h1 h2; rw [show isBa k = false by simp [isBa, h1, h2]] at K; exact K
  · intro h1 h2; rw [show isBa k = true by simp [isBa, h2]] at K; exact K
theorem c7_isWooded {k : Nat} (hk : k < 6) (K : Q (some (.int (nI (if isWo k then 1 else 0)))) m) : pm_G d mX7_isWooded 0 [some (.int (nI k))] [] m Q := by
  have E : ∀ {b : Nat}, b < 6 → (nI k = nI b ↔ k = b) := fun hb => ni_eq (by omega) (by omega)
  have z1 : (nI k = 2) ↔ k = 2 := E (b := 2) (by omega)
  have z4 : (nI k = 5) ↔ k = 5 := E (b := 5) (by omega)
  refine gX7_isWooded_0 ?_ ?_ ?_ <;> simp only [z1, z4]
  · intro h; rw [show isWo k = true by simp [isWo, h]] at K; exact K
  · intro h1 h2; rw [show isWo k = false by simp [isWo, h1, h2]] at K; exact K
  · intro h1 h2; rw [show isWo k = true by simp [isWo, h2]] at K; exact K
theorem c7_wordOf {x : Int32} (K : Q (some (.int (nI (wordI x)))) m) : pm_G d mX7_wordOf 0 [some (.int x)] [] m Q := by
  refine gX7_wordOf_0 ?_ ?_ ?_
  · intro h1 h2
    refine q_eq K ?_
    unfold wordI
    rw [if_neg (Int32.not_lt.mpr h1), if_neg (Int32.not_lt.mpr h2)]
    rfl
  · intro h1 h2
    refine q_eq K ?_
    unfold wordI
    rw [if_neg (Int32.not_lt.mpr h1), if_pos (Int32.not_le.mp h2)]
    rfl
  · intro h1
    refine q_eq K ?_
    unfold wordI
    rw [if_pos (Int32.not_le.mp h1)]
    rfl
/-- view: of kind k, from f on, so broad -/
def viewB (k f b i : Nat) : Bool := decide (f ≤ i) && decide (i < 12) && decide (i < f + (if k = 4 then 2 * b else b))
theorem c7_view {k f b : Nat} {l3 l4 : Option Value} (hk : k < 6) (hf : f < 12) (hb : b ≤ 9) (K : Q (some (.int (nI (mkS (viewB k f b) 12)))) m) : pm_G d mX7_view 0 [some (.int (nI k)), some (.int (nI f)), some (.int (nI b)), l3, l4] [] m Q := by
  have z4 : (nI k = 4) ↔ k = 4 := ni_eq (b := 4) (by omega) (by omega)
  have out : ∀ i, f ≤ i → (12 ≤ i ∨ f + (if k = 4 then 2 * b else b) ≤ i) → i ≤ 12 → mkS (viewB k f b) i = mkS (viewB k f b) 12 := by
    intro i h1 h2 h3
    refine (mkS_flat 12 h3 (fun j h4 h5 => ?_)).symm
    have : ¬ j < f + (if k = 4 then 2 * b else b) := by omega
    simp [viewB, this]
  have loop : ∀ (n i : Nat), i + n = 12 → f ≤ i → pm_G d mX7_view 5 [some (.int (nI k)), some (.int (nI f)), some (.int (nI b)), some (.int (nI (mkS (viewB k f b) i))), some (.int (nI i))] [] m Q := by
    intro n
    induction n with
    | zero =>
      intro i hi hfi
      have h12 : i = 12 := by omega
      subst h12
      exact gX7_view_5 (fun _ => K) (fun h => absurd (by decide) h) (fun h => absurd (by decide) h) (fun h => absurd (by decide) h) (fun h => absurd (by decide) h)
    | succ n ih =>
      intro i hi hfi
      have n1 : ¬ (12 : Int32) ≤ nI i := fun z => by
        have := (ni_le (a := 12) (by omega) (by omega)).mp z
        omega
      have lt := mkS_lt (viewB k f b) i
      have go : i < f + (if k = 4 then 2 * b else b) → pm_G d mX7_view 5 [some (.int (nI k)), some (.int (nI f)), some (.int (nI b)), some (.int (nI (mkS (viewB k f b) i) ||| (1 <<< (nI i &&& 31)))), some (.int (nI i + 1))] [] m Q := by
        intro h
        rw [ni_shl i (by omega), ni_or, or_add lt, nI_1]
        have hp : viewB k f b i = true := by
          have : i < 12 := by omega
          simp [viewB, hfi, h, this]
        have := ih (i + 1) (by omega) (by omega)
        simp only [mkS, hp, if_true] at this
        exact this
      have fin : f + (if k = 4 then 2 * b else b) ≤ i → Q (some (.int (nI (mkS (viewB k f b) i)))) m := by
        intro h
        rw [out i hfi (Or.inr h) (by omega)]
        exact K
      refine gX7_view_5 (fun h => absurd h n1) ?_ ?_ ?_ ?_ <;> simp only [z4]
      · intro _ h4 h
        rw [nI_add, ni_le (by omega) (by omega)] at h
        exact fin (by rw [if_neg h4]; exact h)
      · intro _ h4 h
        rw [nI_add, ni_le (by omega) (by omega)] at h
        exact go (by rw [if_neg h4]; omega)
      · intro _ h4 h
        rw [show (2 : Int32) * nI b = nI (2 * b) from pk_mul 2 b, nI_add, ni_le (by omega) (by omega)] at h
        exact fin (by rw [if_pos h4]; exact h)
      · intro _ h4 h
        rw [show (2 : Int32) * nI b = nI (2 * b) from pk_mul 2 b, nI_add, ni_le (by omega) (by omega)] at h
        exact go (by rw [if_pos h4]; omega)
  refine gX7_view_0 ?_
  have e0 : (0 : Int32) = nI (mkS (viewB k f b) f) := by
    rw [mkS_flat (a := 0) f (by omega) (fun j _ h2 => by
      have : ¬ f ≤ j := by omega
      simp [viewB, this])]
    rfl
  rw [e0]
  exact loop (12 - f) f (by omega) (Nat.le_refl _)
def passB (k f : Nat) (g : List Int32) (i : Nat) : Bool := (isBa k && !decide ((i - f) % 2 = 0)) || (isWo k && decide (g.getD i 0 < 0))
theorem seen_pass {k f b dy : Nat} {g : List Int32} : mkS (fun j => viewB k f (if k = 3 ∧ dy % 2 = 1 then b / 2 else b) j && !passB k f g j) 12 = seenS k f b g dy := by
  refine mkS_congr 12 (fun j hj => ?_)
  unfold viewB passB seenB viewW
  by_cases h4 : k = 4
  · subst h4; simp [Bool.and_assoc]
  · by_cases h3 : k = 3 ∧ dy % 2 = 1
    · rw [if_pos h3, if_neg h4, if_neg h4]
      cases isBa k <;> cases isWo k <;> simp [Bool.and_assoc]
    · rw [if_neg h3, if_neg h4]
      cases isBa k <;> cases isWo k <;> simp [Bool.and_assoc]
end REF1

/-! notes: a day and a word, again and again -/
def noteB (l : List Int32) : Nat → Bool
  | 0 => true
  | k + 1 => noteB l k && ((idx 100 (l.getD (2 * k) 0)).isSome && (idx 3 (l.getD (2 * k + 1) 0)).isSome)
theorem noteB_all {l : List Int32} : ∀ k, noteB l k = true → ∀ i, i < k → ∃ t w, idx 100 (l.getD (2 * i) 0) = some t ∧ idx 3 (l.getD (2 * i + 1) 0) = some w
  | 0, _, i, hi => absurd hi (by omega)
  | k + 1, h, i, hi => by
    simp only [noteB, Bool.and_eq_true] at h
    by_cases e : i = k
    · subst e
      obtain ⟨t, ht⟩ := Option.isSome_iff_exists.mp h.2.1
      obtain ⟨w, hw⟩ := Option.isSome_iff_exists.mp h.2.2
      exact ⟨t, w, ht, hw⟩
    · exact noteB_all k h.1 i (by omega)
theorem noteB_no {l : List Int32} {i : Nat} (h : idx 100 (l.getD (2 * i) 0) = none ∨ idx 3 (l.getD (2 * i + 1) 0) = none) : ∀ k, i < k → noteB l k = false
  | 0, hi => absurd hi (by omega)
  | k + 1, hi => by
    by_cases e : i = k
    · subst e
      rcases h with h | h <;> simp only [noteB, h] <;> simp
    · simp [noteB, noteB_no h k (by omega)]
def noteF (o : Option (List Int32)) : Nat := match o with
  | none => 1
  | some l => if 16 < l.length ∨ l.length % 2 ≠ 0 then 5 else if noteB l (l.length / 2) = true then 0 else 3
def fitB (k f b : Nat) (g l : List Int32) : Nat → Bool
  | 0 => true
  | n + 1 => fitB k f b g l n && decide (nI (wordI (sumS k f b g (l.getD (2 * n) 0).toNatClampNeg)) = l.getD (2 * n + 1) 0)
theorem fitB_no {k f b : Nat} {g l : List Int32} {i : Nat} (h : ¬ nI (wordI (sumS k f b g (l.getD (2 * i) 0).toNatClampNeg)) = l.getD (2 * i + 1) 0) : ∀ n, i < n → fitB k f b g l n = false
  | 0, hi => absurd hi (by omega)
  | n + 1, hi => by
    by_cases e : i = n
    · subst e
      simp only [fitB, decide_eq_false h, Bool.and_false]
    · simp only [fitB, fitB_no h n (by omega), Bool.false_and]
section NOTES
variable {d : Nat} {m : pmMem} {Q : Option Value → pmMem → Prop} {S : Sg}
theorem c_notesFault {a : Nat} {o : Option (List Int32)} {l1 : Option Value} (c : pm_kd a = 5) (hsh : sheetM o 40 a m) (K : Q (some (.int (nI (noteF o)))) m) : pm_G (d + 2) mX6_notesFault 0 [some (.ref a), l1] [] m Q := by
  refine gX6_notesFault_0 c (c_isMissing c hsh (by omega) (fun ho => ?_) (fun l ho => ?_))
  · rw [ho] at K
    exact gX6_notesFault_4 c (fun z => absurd z (by decide)) (fun _ => K)
  · rw [ho] at K hsh
    have hl := hsh.2.2.1
    simp only [noteF] at K
    refine gX6_notesFault_4 c (fun _ => c_size c hsh ?_) (fun z => absurd rfl z)
    have e16 : ((16 : Int32) < nI l.length) ↔ 16 < l.length := ni_lt (a := 16) (by omega) (by omega)
    have er : nI l.length - nI l.length / 2 * 2 = nI (l.length % 2) := pk_rem (d := 2) (by omega) (by omega) (by omega)
    have er0 : (nI (l.length % 2) = 0) ↔ l.length % 2 = 0 := ni_eq (b := 0) (by omega) (by omega)
    refine gX6_notesFault_13 c ?_ ?_ <;> rw [e16]
    · intro z; rw [if_pos (Or.inl z)] at K; exact K
    · intro z
      refine c_size c hsh (gX6_notesFault_22 ?_ ?_) <;> rw [er, er0]
      · intro z2
        rw [if_neg (by omega)] at K
        have loop : ∀ (n i : Nat), i + n = l.length / 2 → noteB l i = true → pm_G (d + 2) mX6_notesFault 31 [some (.ref a), some (.int (nI (2 * i)))] [] m Q := by
          intro n
          induction n with
          | zero =>
            intro i hi hb
            have hin : i = l.length / 2 := by omega
            subst hin
            rw [if_pos hb] at K
            refine gX6_notesFault_31 c (c_size c hsh (gX6_notesFault_36 c (fun _ => K) (fun z => absurd ((ni_le (by omega) (by omega)).mpr (by omega)) z)))
          | succ n ih =>
            intro i hi hb
            have e : (nI l.length ≤ nI (2 * i)) ↔ l.length ≤ 2 * i := ni_le (by omega) (by omega)
            have bad : (idx 100 (l.getD (2 * i) 0) = none ∨ idx 3 (l.getD (2 * i + 1) 0) = none) → Q (some (.int 3)) m := by
              intro hn
              rw [if_neg (by rw [noteB_no hn _ (show i < l.length / 2 by omega)]; decide)] at K
              exact K
            refine gX6_notesFault_31 c (c_size c hsh (gX6_notesFault_36 c (fun z => absurd (e.mp z) (by omega)) (fun _ => c_get c hsh (by omega) (by omega) (gX6_notesFault_44 c (fun z => ?_) (fun z => c_get c hsh (by omega) (by omega) (gX6_notesFault_52 c (fun z2 => ?_) (fun z2 => ?_)))))))
            · rw [i32_neg] at z
              exact bad (Or.inl (idx_none (by omega)))
            · rw [show (100 : Int32) = nI 100 from rfl, i32_le (by omega)] at z2
              exact bad (Or.inl (idx_none (by omega)))
            · rw [i32_neg] at z
              rw [show (100 : Int32) = nI 100 from rfl, i32_le (by omega)] at z2
              obtain ⟨t, ht, -, -⟩ := idx_some (n := 100) (x := l.getD (2 * i) 0) (by omega) (by omega) (by omega)
              rw [nI_1]
              refine c_get c hsh (by omega) (by omega) (gX6_notesFault_64 (c_isWord (fun w hw _ _ => ?_) (fun hw => ?_)))
              · refine gX6_notesFault_67 (fun _ => ?_) (fun z => absurd z (by decide))
                rw [show nI (2 * i) + 2 = nI (2 * (i + 1)) from nI_add (2 * i) 2]
                exact ih (i + 1) (by omega) (by simp only [noteB, hb, ht, hw]; rfl)
              · exact gX6_notesFault_67 (fun z => absurd rfl z) (fun _ => bad (Or.inr hw))
        exact loop (l.length / 2) 0 (by omega) rfl
      · intro z2
        rw [if_pos (Or.inr z2)] at K
        exact K
theorem c_fits {a a1 a3 k f b : Nat} {g l : List Int32} {l4 : Option Value} (c : pm_kd a = 5) (c1 : pm_kd a1 = 1) (c3 : pm_kd a3 = 8) (hsh : sheetM (some l) 40 a m) (hl2 : l.length % 2 = 0) (hb : noteB l (l.length / 2) = true) (h1 : m.1 a1 1 = nI f) (h2 : m.1 a1 2 = nI b) (hg : m.2.1 a3 = g) (hgl : g.length = 12) (hf : f ≤ 12) (hb9 : b ≤ 9) (hk : k < 6) (K : Q (some (.int (nI (if fitB k f b g l (l.length / 2) then 1 else 0)))) m) : pm_G (d + 3) mX6_fits 0 [some (.ref a), some (.ref a1), some (.int (nI k)), some (.ref a3), l4] [] m Q := by
  have hl := hsh.2.2.1
  have loop : ∀ (n i : Nat), i + n = l.length / 2 → fitB k f b g l i = true → pm_G (d + 3) mX6_fits 3 [some (.ref a), some (.ref a1), some (.int (nI k)), some (.ref a3), some (.int (nI (2 * i)))] [] m Q := by
    intro n
    induction n with
    | zero =>
      intro i hi hfb
      have hin : i = l.length / 2 := by omega
      subst hin
      rw [hfb] at K
      exact gX6_fits_3 c (c_size c hsh (gX6_fits_9 c (fun _ => K) (fun z => absurd ((ni_le (by omega) (by omega)).mpr (by omega)) z)))
    | succ n ih =>
      intro i hi hfb
      have e : (nI l.length ≤ nI (2 * i)) ↔ l.length ≤ 2 * i := ni_le (by omega) (by omega)
      obtain ⟨t, w, ht, hw⟩ := noteB_all _ hb i (by omega)
      obtain ⟨t1, t2⟩ := idx_spec (n := 100) (by omega) ht
      refine gX6_fits_3 c (c_size c hsh (gX6_fits_9 c (fun z => absurd (e.mp z) (by omega)) (fun _ => c_get c hsh (by omega) (by omega) (gX6_fits_21 c1 ?_))))
      rw [t2]
      refine c_sumAs c1 c3 h1 h2 hg hgl hf hb9 hk (by omega) (gX6_fits_24 (c_wordOf (gX6_fits_27 c ?_)))
      rw [nI_1]
      refine c_get c hsh (by omega) (by omega) (gX6_fits_35 (fun z => ?_) (fun z => ?_))
      · rw [show nI (2 * i) + 2 = nI (2 * (i + 1)) from nI_add (2 * i) 2]
        refine ih (i + 1) (by omega) ?_
        simp only [fitB, hfb, Bool.true_and]
        rw [t2, ni_cl (by omega)]
        exact decide_eq_true z
      · have no := fitB_no (k := k) (f := f) (b := b) (g := g) (l := l) (i := i) (by rw [t2, ni_cl (by omega)]; exact z) (l.length / 2) (by omega)
        rw [no] at K
        exact K
  exact gX6_fits_0 (loop (l.length / 2) 0 (by omega) rfl)
end NOTES

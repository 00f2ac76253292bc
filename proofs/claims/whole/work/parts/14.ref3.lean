/-! rows of twelve -/
def lst12 (f : Nat → Int32) : List Int32 := (List.range 12).map f
theorem lst_len (f : Nat → Int32) : (lst12 f).length = 12 := by simp [lst12]
theorem lst_get {f : Nat → Int32} {i : Nat} (h : i < 12) : (lst12 f).getD i 0 = f i := by
  simp [lst12, h]
theorem lst_congr {f g : Nat → Int32} (h : ∀ i, i < 12 → f i = g i) : lst12 f = lst12 g := List.map_congr_left (fun i hi => h i (List.mem_range.mp hi))
theorem lst_of {l : List Int32} (h : l.length = 12) : l = lst12 (fun i => l.getD i 0) := by
  apply List.ext_getElem?
  intro i
  by_cases hi : i < 12
  · have h2 : i < l.length := by omega
    simp [lst12, hi, h2]
  · rw [List.getElem?_eq_none (by omega), List.getElem?_eq_none (by rw [lst_len]; omega)]
theorem lst_set {f : Nat → Int32} {i : Nat} {v : Int32} (h : i < 12) : (lst12 f).set i v = lst12 (fun j => if j = i then v else f j) := by
  apply List.ext_getElem?
  intro k
  by_cases hk : k < 12
  · by_cases e : k = i
    · subst e
      rw [List.getElem?_set_self (by rw [lst_len]; exact h)]
      simp [lst12, hk]
    · rw [List.getElem?_set_ne (Ne.symm e)]
      simp [lst12, hk, e]
  · rw [List.getElem?_eq_none (by simp [lst12]; omega), List.getElem?_eq_none (by rw [lst_len]; omega)]
theorem swapB_bit (s i j t : Nat) : (swapB s i j).testBit t = s.testBit (if t = i then j else if t = j then i else t) := by
  unfold swapB
  by_cases h : s.testBit i = s.testBit j
  · rw [if_pos h]
    by_cases h1 : t = i
    · rw [if_pos h1, h1, h]
    · rw [if_neg h1]
      by_cases h2 : t = j
      · rw [if_pos h2, h2, h]
      · rw [if_neg h2]
  · rw [if_neg h, Nat.testBit_xor, Nat.testBit_or, Nat.testBit_two_pow, Nat.testBit_two_pow]
    by_cases h1 : t = i
    · subst h1
      simp
      cases hx : s.testBit t <;> cases hy : s.testBit j <;> simp_all
    · rw [if_neg h1]
      have h1' : ¬ i = t := fun z => h1 z.symm
      by_cases h2 : t = j
      · subst h2
        simp [h1']
        cases hx : s.testBit t <;> cases hy : s.testBit i <;> simp_all
      · have h2' : ¬ j = t := fun z => h2 z.symm
        rw [if_neg h2]
        simp [h1', h2']
theorem fate_swap (s : Cs) (i j t : Nat) : fateC (swapC s i j) t = fateC s (if t = i then j else if t = j then i else t) := by
  show (if (swapB s.2.2.2.1 i j).testBit t then 1 else if (swapB s.2.2.2.2 i j).testBit t then 2 else 0) = _
  rw [swapB_bit, swapB_bit]
  rfl
theorem fate_say (L : Ld) (s : Cs) (h i : Nat) : fateC (sayC L s h) i = if (seenC L s h).testBit i = true ∧ fateC s i = 0 then wordC L s h else fateC s i := by
  have w3 : wordC L s h < 3 := wordI_lt _
  show (if (if wordC L s h = 1 then s.2.2.2.1 ||| dif (seenC L s h) (s.2.2.2.1 ||| s.2.2.2.2) else s.2.2.2.1).testBit i then 1 else if (if wordC L s h = 2 then s.2.2.2.2 ||| dif (seenC L s h) (s.2.2.2.1 ||| s.2.2.2.2) else s.2.2.2.2).testBit i then 2 else 0) = _
  unfold fateC
  rcases (show wordC L s h = 0 ∨ wordC L s h = 1 ∨ wordC L s h = 2 by omega) with w | w | w <;> rw [w]
  · cases hb : s.2.2.2.1.testBit i <;> cases hc : s.2.2.2.2.testBit i <;> simp [hb, hc]
  · cases hb : s.2.2.2.1.testBit i <;> cases hc : s.2.2.2.2.testBit i <;> cases hs : (seenC L s h).testBit i <;> simp [hb, hc, hs, Nat.testBit_or, dif_bit]
  · cases hb : s.2.2.2.1.testBit i <;> cases hc : s.2.2.2.2.testBit i <;> cases hs : (seenC L s h).testBit i <;> simp [hb, hc, hs, Nat.testBit_or, dif_bit]
theorem fate_le (s : Cs) (i : Nat) : fateC s i < 3 := by
  unfold fateC
  split
  · omega
  · split <;> omega
/-- nobody is both -/
def dj (s : Cs) : Prop := ∀ i, ¬ (s.2.2.2.1.testBit i = true ∧ s.2.2.2.2.testBit i = true)
theorem dj_fate {s : Cs} (h : dj s) (hc : s.2.2.2.2 < 4096) : mkS (fun i => decide (fateC s i = 2)) 12 = s.2.2.2.2 := by
  rw [← mkS_self (n := 12) hc]
  refine mkS_congr 12 (fun i _ => ?_)
  have := h i
  unfold fateC
  cases hb : s.2.2.2.1.testBit i <;> cases hc : s.2.2.2.2.testBit i <;> simp_all
theorem dj_say {L : Ld} {s : Cs} {h : Nat} (hs : dj s) : dj (sayC L s h) := by
  intro i
  have h0 := hs i
  show ¬ ((if wordC L s h = 1 then s.2.2.2.1 ||| dif (seenC L s h) (s.2.2.2.1 ||| s.2.2.2.2) else s.2.2.2.1).testBit i = true ∧ (if wordC L s h = 2 then s.2.2.2.2 ||| dif (seenC L s h) (s.2.2.2.1 ||| s.2.2.2.2) else s.2.2.2.2).testBit i = true)
  by_cases w1 : wordC L s h = 1
  · rw [if_pos w1, if_neg (by omega), Nat.testBit_or, dif_bit, Nat.testBit_or]
    cases hb : s.2.2.2.1.testBit i <;> cases hc : s.2.2.2.2.testBit i <;> simp_all
  · rw [if_neg w1]
    by_cases w2 : wordC L s h = 2
    · rw [if_pos w2, Nat.testBit_or, dif_bit, Nat.testBit_or]
      cases hb : s.2.2.2.1.testBit i <;> cases hc : s.2.2.2.2.testBit i <;> simp_all
    · rw [if_neg w2]; exact h0
theorem dj_swap {s : Cs} {i j : Nat} (hs : dj s) : dj (swapC s i j) := by
  intro t
  show ¬ ((swapB s.2.2.2.1 i j).testBit t = true ∧ (swapB s.2.2.2.2 i j).testBit t = true)
  rw [swapB_bit, swapB_bit]
  exact hs _
theorem dj_perform {L : Ld} {s : Cs} {c : Nat} (hs : dj s) : dj (performC L s c) := by
  unfold performC
  split
  · exact dj_swap hs
  · split
    · exact dj_say hs
    · exact hs
theorem dj_replay (L : Ld) (p : List Int32) (ds : List Nat) : dj (replay L p ds) := by
  have key : ∀ (ds : List Nat) (s : Cs), dj s → dj (ds.foldl (performC L) s) := by
    intro ds
    induction ds with
    | nil => intro s h; exact h
    | cons c ds ih => intro s h; exact ih _ (dj_perform h)
  exact key ds _ (fun i => by simp)
theorem swapG_get {g : List Int32} {i j t : Nat} (hg : g.length = 12) (hi : i < 12) (hj : j < 12) (ht : t < 12) : (swapG g i j).getD t 0 = g.getD (if t = i then j else if t = j then i else t) 0 := by
  unfold swapG
  rw [lst_of hg, lst_set hi, lst_set hj, lst_get ht, lst_get hi, lst_get hj]
  by_cases h2 : t = j
  · subst h2
    rw [if_pos rfl]
    by_cases h1 : t = i
    · subst h1
      rw [if_pos rfl, lst_get hi]
    · rw [if_neg h1, if_pos rfl, lst_get hi]
  · rw [if_neg h2]
    by_cases h1 : t = i
    · rw [if_pos h1, if_pos h1, lst_get hj]
    · rw [if_neg h1, if_neg h1, if_neg h2, lst_get ht]

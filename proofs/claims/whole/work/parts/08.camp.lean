/-! a camp, pure: hills (how many, kind, first, broad), and what is GIVEN, the day, the gold, who is blessed, who is cursed -/
abbrev Ld : Type := Nat × (Nat → Nat × Nat × Nat)
abbrev Cs : Type := List Int32 × Nat × Int32 × Nat × Nat
def seenC (L : Ld) (s : Cs) (h : Nat) : Nat := seenS (L.2 h).1 (L.2 h).2.1 (L.2 h).2.2 s.1 s.2.1
def sumC (L : Ld) (s : Cs) (h : Nat) : Int32 := sumS (L.2 h).1 (L.2 h).2.1 (L.2 h).2.2 s.1 s.2.1
def wordC (L : Ld) (s : Cs) (h : Nat) : Nat := wordI (sumC L s h)
theorem seenC_lt (L : Ld) (s : Cs) (h : Nat) : seenC L s h < 4096 := seenS_lt _ _ _ _ _
def dif (s t : Nat) : Nat := s ^^^ (s &&& t)
theorem dif_bit (s t i : Nat) : (dif s t).testBit i = (s.testBit i && !t.testBit i) := by
  unfold dif
  rw [Nat.testBit_xor, Nat.testBit_and]
  cases s.testBit i <;> cases t.testBit i <;> rfl
theorem lt4096 {s : Nat} (h : ∀ i, 12 ≤ i → s.testBit i = false) : s < 4096 := Nat.lt_pow_two_of_testBit s h
theorem bit4096 {s i : Nat} (h : s < 4096) (hi : 12 ≤ i) : s.testBit i = false := Nat.testBit_lt_two_pow (Nat.lt_of_lt_of_le h (show 2 ^ 12 ≤ 2 ^ i from Nat.pow_le_pow_right (by decide) hi))
theorem dif_lt {s t : Nat} (h : s < 4096) : dif s t < 4096 := lt4096 fun i hi => by rw [dif_bit, bit4096 h hi]; rfl
theorem or_lt {s t : Nat} (h : s < 4096) (h2 : t < 4096) : s ||| t < 4096 := lt4096 fun i hi => by rw [Nat.testBit_or, bit4096 h hi, bit4096 h2 hi]; rfl
theorem ni_andn (s t : Nat) : nI s &&& (nI t ^^^ (-1)) = nI (dif s t) := by
  unfold dif
  rw [← ni_xor, ← ni_and]
  apply Int32.toBitVec_inj.1
  show (nI s).toBitVec &&& ((nI t).toBitVec ^^^ (-1 : Int32).toBitVec) = (nI s).toBitVec ^^^ ((nI s).toBitVec &&& (nI t).toBitVec)
  rw [show (-1 : Int32).toBitVec = BitVec.allOnes 32 from by decide]
  apply BitVec.eq_of_getLsbD_eq
  intro i hi
  simp only [BitVec.getLsbD_and, BitVec.getLsbD_xor, BitVec.getLsbD_allOnes]
  cases (nI s).toBitVec.getLsbD i <;> cases (nI t).toBitVec.getLsbD i <;> simp [hi]
def feeN (w : Nat) : Nat := if w = 0 then 1 else if w = 1 then 0 else 3
def sayC (L : Ld) (s : Cs) (h : Nat) : Cs := (s.1, s.2.1, s.2.2.1 + nI (feeN (wordC L s h)), if wordC L s h = 1 then s.2.2.2.1 ||| dif (seenC L s h) (s.2.2.2.1 ||| s.2.2.2.2) else s.2.2.2.1, if wordC L s h = 2 then s.2.2.2.2 ||| dif (seenC L s h) (s.2.2.2.1 ||| s.2.2.2.2) else s.2.2.2.2)
def swapB (s i j : Nat) : Nat := if s.testBit i = s.testBit j then s else s ^^^ (2 ^ i ||| 2 ^ j)
def swapG (g : List Int32) (i j : Nat) : List Int32 := (g.set i (g.getD j 0)).set j (g.getD i 0)
def swapC (s : Cs) (i j : Nat) : Cs := (swapG s.1 i j, s.2.1, s.2.2.1, swapB s.2.2.2.1 i j, swapB s.2.2.2.2 i j)
def dayC (s : Cs) : Cs := (s.1, s.2.1 + 1, s.2.2)
theorem swapB_lt {s i j : Nat} (h : s < 4096) (hi : i < 12) (hj : j < 12) : swapB s i j < 4096 := by
  unfold swapB
  split
  · exact h
  · refine lt4096 fun t ht => ?_
    rw [Nat.testBit_xor, Nat.testBit_or, bit4096 h ht, Nat.testBit_two_pow, Nat.testBit_two_pow]
    have h1 : i ≠ t := by omega
    have h2 : j ≠ t := by omega
    simp [h1, h2]
/-- the hills in memory -/
def landM (L : Ld) (m : pmMem) : Prop := m.1 8 1 = nI L.1 ∧ L.1 ≤ 6 ∧ ∀ h, h < L.1 → m.1 (10 + h) 0 = nI (L.2 h).1 ∧ m.1 (10 + h) 1 = nI (L.2 h).2.1 ∧ m.1 (10 + h) 2 = nI (L.2 h).2.2 ∧ (L.2 h).1 < 6 ∧ (L.2 h).2.1 < 12 ∧ 1 ≤ (L.2 h).2.2 ∧ (L.2 h).2.2 ≤ 9
def csOk (s : Cs) : Prop := s.1.length = 12 ∧ s.2.1 < 900 ∧ s.2.2.2.1 < 4096 ∧ s.2.2.2.2 < 4096
/-- a camp's state in memory, at the cell a -/
def campM (s : Cs) (a : Nat) (m : pmMem) : Prop := m.2.1 (a + 2) = s.1 ∧ m.1 a 5 = nI s.2.1 ∧ m.1 a 6 = s.2.2.1 ∧ m.1 a 7 = nI s.2.2.2.1 ∧ m.1 a 8 = nI s.2.2.2.2 ∧ csOk s
theorem landM_ag {L : Ld} {S : Nat → Prop} {m m' : pmMem} (h : landM L m) (ha : ag S m m') (hS : ∀ c, 8 ≤ c → c < 16 → ¬ S c) : landM L m' := by
  obtain ⟨h1, h2, h3⟩ := h
  refine ⟨?_, h2, fun t ht => ?_⟩
  · rw [(ha 8 (hS 8 (by omega) (by omega))).1]; exact h1
  · rw [(ha (10 + t) (hS (10 + t) (by omega) (by omega))).1]; exact h3 t ht
theorem kd_hill {h : Nat} (hh : h < 6) : pm_kd (10 + h) = 1 := by
  have key : ∀ h, h < 6 → pm_kd (10 + h) = 1 := by decide +kernel
  exact key h hh
theorem ra_hill {h : Nat} (hh : h < 6) : pm_ra 9 (nI h).toNatClampNeg = 10 + h := by
  rw [ni_cl (by omega)]; rfl
section CAMP
variable {d : Nat} {m : pmMem} {Q : Option Value → pmMem → Prop} {L : Ld} {s : Cs} {a h : Nat}
theorem c_seenFrom {l2 : Option Value} (c : pm_kd a = 0) (hL : landM L m) (hs : campM s a m) (hh : h < L.1) (K : Q (some (.int (nI (seenC L s h)))) m) : pm_G (d + 2) mX0_seenFrom 0 [some (.ref a), some (.int (nI h)), l2] [] m Q := by
  obtain ⟨q1, q2, q3⟩ := hL
  obtain ⟨r1, r2, r3, r4, r5, r6, r7⟩ := q3 h hh
  obtain ⟨s1, s2, s3, s4, s5, t1, t2, t3, t4⟩ := hs
  have h6 : h < 6 := by omega
  refine gX0_seenFrom_0 c (ni_in (n := 6) h6 (by omega)) ?_
  rw [ra_hill h6, r1, s2]
  refine c_seenAs (kd_hill h6) (pm_kc a c).2.1 r2 r3 s1 t1 (by omega) (by omega) r4 (by omega) ?_
  exact gX0_seenFrom_26 K
theorem c_sumFrom {l2 : Option Value} (c : pm_kd a = 0) (hL : landM L m) (hs : campM s a m) (hh : h < L.1) (K : Q (some (.int (sumC L s h))) m) : pm_G (d + 3) mX0_sumFrom 0 [some (.ref a), some (.int (nI h)), l2] [] m Q := by
  obtain ⟨q1, q2, q3⟩ := hL
  obtain ⟨r1, r2, r3, r4, r5, r6, r7⟩ := q3 h hh
  obtain ⟨s1, s2, s3, s4, s5, t1, t2, t3, t4⟩ := hs
  have h6 : h < 6 := by omega
  refine gX0_sumFrom_0 c (ni_in (n := 6) h6 (by omega)) ?_
  rw [ra_hill h6, r1, s2]
  refine c_sumAs (kd_hill h6) (pm_kc a c).2.1 r2 r3 s1 t1 (by omega) (by omega) r4 (by omega) ?_
  exact gX0_sumFrom_26 K
theorem c_wordFrom {l2 : Option Value} (c : pm_kd a = 0) (hL : landM L m) (hs : campM s a m) (hh : h < L.1) (K : Q (some (.int (nI (wordC L s h)))) m) : pm_G (d + 3) mX0_wordFrom 0 [some (.ref a), some (.int (nI h)), l2] [] m Q := by
  obtain ⟨q1, q2, q3⟩ := hL
  obtain ⟨r1, r2, r3, r4, r5, r6, r7⟩ := q3 h hh
  obtain ⟨s1, s2, s3, s4, s5, t1, t2, t3, t4⟩ := hs
  have h6 : h < 6 := by omega
  refine gX0_wordFrom_0 c (ni_in (n := 6) h6 (by omega)) ?_
  rw [ra_hill h6, r1, s2]
  refine c_sumAs (kd_hill h6) (pm_kc a c).2.1 r2 r3 s1 t1 (by omega) (by omega) r4 (by omega) ?_
  exact gX0_wordFrom_26 (c_wordOf (gX0_wordFrom_29 K))
theorem c_feeOf {w : Nat} {x1 x2 x3 : Int32} (hw : w < 3) (K : Q (some (.int (if w = 0 then x1 else if w = 1 then x2 else x3))) m) : pm_G d mX6_feeOf 0 [some (.int (nI w)), some (.int x1), some (.int x2), some (.int x3)] [] m Q := by
  refine gX6_feeOf_0 ?_ ?_ ?_
  · intro h1 h2
    rw [if_neg (ni_ne (n := 0) h1), if_neg (ni_ne (n := 1) h2)] at K
    exact K
  · intro h1 h2
    have h2 : w = 1 := (ni_eq (by omega) (by omega)).mp h2
    rw [if_neg (ni_ne (n := 0) h1), if_pos h2] at K
    exact K
  · intro h1
    have h1 : w = 0 := (ni_eq (by omega) (by omega)).mp h1
    rw [if_pos h1] at K
    exact K
theorem fee_eq (w : Nat) : (if w = 0 then (1 : Int32) else if w = 1 then 0 else 3) = nI (feeN w) := by
  unfold feeN
  split
  · rfl
  · split <;> rfl
/-- the seer speaks, in a camp -/
theorem c_sayFrom {l2 l3 l4 l5 : Option Value} (c : pm_kd a = 0) (hL : landM L m) (hs : campM s a m) (hh : h < L.1) (K : ∀ m', campM (sayC L s h) a m' → m'.1 a 4 = m.1 a 4 → ag (fun c => c = a) m m' → m'.2 = m.2 → Q none m') : pm_G (d + 2) mX0_sayFrom 0 [some (.ref a), some (.int (nI h)), l2, l3, l4, l5] [] m Q := by
  obtain ⟨q1, q2, q3⟩ := hL
  obtain ⟨r1, r2, r3, r4, r5, r6, r7⟩ := q3 h hh
  obtain ⟨s1, s2, s3, s4, s5, t1, t2, t3, t4⟩ := hs
  have h6 : h < 6 := by omega
  have sl := seenC_lt L s h
  refine gX0_sayFrom_0 c (ni_in (n := 6) h6 (by omega)) ?_
  rw [ra_hill h6, r1, s2]
  refine c_seenAs (kd_hill h6) (pm_kc a c).2.1 r2 r3 s1 t1 (by omega) (by omega) r4 (by omega) ?_
  refine gX0_sayFrom_26 (kd_hill h6) c ?_
  rw [r1]
  refine c_sumOf (pm_kc a c).2.1 s1 t1 r4 sl ?_
  refine gX0_sayFrom_39 (c_wordOf ?_)
  have hw : wordI (sumL (L.2 h).1 (seenS (L.2 h).1 (L.2 h).2.1 (L.2 h).2.2 s.1 s.2.1) s.1 12) = wordC L s h := rfl
  have hw3 : wordC L s h < 3 := wordI_lt _
  have bd : nI (seenC L s h) &&& ((m.1 a 7 ||| m.1 a 8) ^^^ (-1)) = nI (dif (seenC L s h) (s.2.2.2.1 ||| s.2.2.2.2)) := by
    rw [s4, s5, ni_or, ni_andn]
  have dl : dif (seenC L s h) (s.2.2.2.1 ||| s.2.2.2.2) < 4096 := dif_lt sl
  refine gX0_sayFrom_42 c ?_ ?_ ?_
  · intro v1 ev n1 n2
    have n1 := ni_ne (n := 1) n1
    have n2 := ni_ne (n := 2) n2
    rw [hw] at n1 n2
    rw [hw]
    refine c_feeOf hw3 ?_
    rw [fee_eq]
    refine gX0_sayFrom_109 c ?_
    intro m1 e1
    subst e1
    refine K _ ?_ (by simp [pm_rF]) (ag_F (ag_refl _ _) rfl) rfl
    refine ⟨s1, ?_, ?_, ?_, ?_, t1, t2, ?_, ?_⟩
    · simp [pm_rF]; exact s2
    · simp [pm_rF, s3, sayC]
    · simp [pm_rF, s4, sayC, n1]
    · simp [pm_rF, s5, sayC, n2]
    · simp [sayC, n1]; exact t3
    · simp [sayC, n2]; exact t4
  · intro v1 ev n1 n2 m1 e1
    have n1 := ni_ne (n := 1) n1
    rw [hw] at n1 n2
    have n2 : wordC L s h = 2 := (ni_eq (by omega) (by omega)).mp n2
    rw [hw]
    refine c_feeOf hw3 ?_
    rw [fee_eq]
    refine gX0_sayFrom_109 c ?_
    intro m2 e2
    subst e2
    subst e1
    have ev2 : v1 = nI (dif (seenC L s h) (s.2.2.2.1 ||| s.2.2.2.2)) := ev.trans bd
    refine K _ ?_ (by simp [pm_rF]) (ag_F (ag_F (ag_refl _ _) rfl) rfl) rfl
    refine ⟨s1, ?_, ?_, ?_, ?_, t1, t2, ?_, ?_⟩
    · simp [pm_rF]; exact s2
    · simp [pm_rF, s3, sayC]
    · simp [pm_rF, s4, sayC, n1]
    · simp [pm_rF, s5, sayC, n2, ev2, ni_or]
    · simp [sayC, n1]; exact t3
    · simp [sayC, n2]; exact or_lt t4 dl
  · intro v1 ev n1 m1 e1
    rw [hw] at n1
    have n1 : wordC L s h = 1 := (ni_eq (by omega) (by omega)).mp n1
    rw [hw]
    refine c_feeOf hw3 ?_
    rw [fee_eq]
    refine gX0_sayFrom_109 c ?_
    intro m2 e2
    subst e2
    subst e1
    have ev2 : v1 = nI (dif (seenC L s h) (s.2.2.2.1 ||| s.2.2.2.2)) := ev.trans bd
    refine K _ ?_ (by simp [pm_rF]) (ag_F (ag_F (ag_refl _ _) rfl) rfl) rfl
    refine ⟨s1, ?_, ?_, ?_, ?_, t1, t2, ?_, ?_⟩
    · simp [pm_rF]; exact s2
    · simp [pm_rF, s3, sayC]
    · simp [pm_rF, s4, sayC, n1, ev2, ni_or]
    · simp [pm_rF, s5, sayC, n1]
    · simp [sayC, n1]; exact or_lt t3 dl
    · simp [sayC, n1]; exact t4
end CAMP

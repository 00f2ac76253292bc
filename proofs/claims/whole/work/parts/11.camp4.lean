/-! how many are in a set -/
def pop (s : Nat) : Nat → Nat
  | 0 => 0
  | n + 1 => pop s n + if s.testBit n then 1 else 0
def cnt (s : Nat) : Nat := pop s 12
theorem pop_le (s : Nat) : ∀ n, pop s n ≤ n
  | 0 => Nat.le_refl _
  | n + 1 => by
    have := pop_le s n
    simp only [pop]
    split <;> omega
def bcF (x0 : Int32) : Int32 :=
  let v1 := x0 - (((x0.toUInt32 >>> ((1 : Int32).toUInt32 &&& Int32.toUInt32 31)).toInt32) &&& 1431655765)
  let v2 := (v1 &&& 858993459) + (((v1.toUInt32 >>> ((2 : Int32).toUInt32 &&& Int32.toUInt32 31)).toInt32) &&& 858993459)
  let v3 := (v2 + ((v2.toUInt32 >>> ((4 : Int32).toUInt32 &&& Int32.toUInt32 31)).toInt32)) &&& 252645135
  let v4 := v3 + ((v3.toUInt32 >>> ((8 : Int32).toUInt32 &&& Int32.toUInt32 31)).toInt32)
  let v5 := v4 + ((v4.toUInt32 >>> ((16 : Int32).toUInt32 &&& Int32.toUInt32 31)).toInt32)
  v5 &&& 63
theorem bcF_ok (s : Nat) (hs : s < 4096) : bcF (nI s) = nI (cnt s) := by
  have key : ∀ a, a < 64 → ∀ b, b < 64 → bcF (nI (64 * a + b)) = nI (cnt (64 * a + b)) := by decide +kernel
  have h := key (s / 64) (by omega) (s % 64) (by omega)
  rw [Nat.div_add_mod] at h
  exact h
def anyS (L : Ld) (s : Cs) (t : Nat) : Nat → Nat
  | 0 => 0
  | n + 1 => anyS L s t n ||| (if t.testBit n then seenC L s n else 0)
theorem anyS_lt (L : Ld) (s : Cs) (t : Nat) : ∀ n, anyS L s t n < 4096
  | 0 => by show 0 < 4096; decide
  | n + 1 => by
    simp only [anyS]
    refine or_lt (anyS_lt L s t n) ?_
    split
    · exact seenC_lt _ _ _
    · decide
def blessS (L : Ld) (s : Cs) (n : Nat) : Nat := mkS (fun h => decide (wordC L s h = 1)) n
def seeS (L : Ld) (s : Cs) (i n : Nat) : Nat := mkS (fun h => (seenC L s h).testBit i) n
theorem lt64 {p : Nat → Bool} {n : Nat} (hn : n ≤ 6) : mkS p n < 64 := Nat.lt_of_lt_of_le (mkS_lt p n) (show 2 ^ n ≤ 2 ^ 6 from Nat.pow_le_pow_right (by decide) hn)
section CAMP4
variable {d : Nat} {m : pmMem} {Q : Option Value → pmMem → Prop} {L : Ld} {s : Cs} {a h i j : Nat}
theorem c_bitCount {t : Nat} (ht : t < 4096) (K : Q (some (.int (nI (cnt t)))) m) : pm_G d mJ6_bitCount_0f7a4 0 [some (.int (nI t))] [] m Q := by
  refine gJ6_bitCount_0f7a4_0 ?_
  intro v1 e1 v2 e2 v3 e3 v4 e4 v5 e5
  refine q_eq K ?_
  rw [← bcF_ok t ht, e5, e4, e3, e2, e1]
  rfl
theorem c_seenFromAny {t : Nat} {l2 l3 : Option Value} (c : pm_kd a = 0) (hL : landM L m) (hs : campM s a m) (ht : t < 4096) (K : Q (some (.int (nI (anyS L s t L.1)))) m) : pm_G (d + 3) mX0_seenFromAny 0 [some (.ref a), some (.int (nI t)), l2, l3] [] m Q := by
  have h6 := hL.2.1
  have loop : ∀ (k i : Nat), i + k = L.1 → pm_G (d + 3) mX0_seenFromAny 4 [some (.ref a), some (.int (nI t)), some (.int (nI (anyS L s t i))), some (.int (nI i))] [] m Q := by
    intro k
    induction k with
    | zero =>
      intro i hi
      have hin : i = L.1 := by omega
      subst hin
      have le : m.1 8 1 ≤ nI L.1 := by rw [hL.1]; exact Int32.le_refl _
      exact gX0_seenFromAny_4 c (fun _ => K) (fun h => absurd le h) (fun h => absurd le h)
    | succ k ih =>
      intro i hi
      have n1 : ¬ m.1 8 1 ≤ nI i := by
        rw [hL.1]
        intro z
        have := (ni_le (by omega) (by omega)).mp z
        omega
      have nx := ih (i + 1) (by omega)
      refine gX0_seenFromAny_4 c (fun h => absurd h n1) ?_ ?_
      · intro _ hb
        rw [ni_bit0 (by omega) (by omega)] at hb
        rw [nI_1]
        simp only [anyS, hb] at nx
        simpa using nx
      · intro _ hb
        rw [ni_bit0 (by omega) (by omega)] at hb
        have hb : t.testBit i = true := by cases z : t.testBit i <;> simp_all
        refine c_seenFrom c hL hs (by omega) ?_
        refine gX0_seenFromAny_29 ?_
        rw [nI_1, ni_or]
        simp only [anyS, hb, if_true] at nx
        exact nx
  exact gX0_seenFromAny_0 (loop L.1 0 (by omega))
theorem c_hillsThatSee {l2 l3 : Option Value} (c : pm_kd a = 0) (hL : landM L m) (hs : campM s a m) (hi : i < 12) (K : Q (some (.int (nI (seeS L s i L.1)))) m) : pm_G (d + 3) mX0_hillsThatSee 0 [some (.ref a), some (.int (nI i)), l2, l3] [] m Q := by
  have h6 := hL.2.1
  have loop : ∀ (k h : Nat), h + k = L.1 → pm_G (d + 3) mX0_hillsThatSee 4 [some (.ref a), some (.int (nI i)), some (.int (nI (seeS L s i h))), some (.int (nI h))] [] m Q := by
    intro k
    induction k with
    | zero =>
      intro h hh
      have hin : h = L.1 := by omega
      subst hin
      have le : m.1 8 1 ≤ nI L.1 := by rw [hL.1]; exact Int32.le_refl _
      exact gX0_hillsThatSee_4 c (fun _ => K) (fun h => absurd le h)
    | succ k ih =>
      intro h hh
      have n1 : ¬ m.1 8 1 ≤ nI h := by
        rw [hL.1]
        intro z
        have := (ni_le (by omega) (by omega)).mp z
        omega
      have nx := ih (h + 1) (by omega)
      refine gX0_hillsThatSee_4 c (fun h => absurd h n1) ?_
      intro _
      refine c_seenFrom c hL hs (by omega) ?_
      refine gX0_hillsThatSee_21 ?_
      intro v1 ev
      rw [nI_1]
      have sl := seenC_lt L s h
      have lt : seeS L s i h < 2 ^ h := mkS_lt _ h
      have e1 : v1 = nI (seeS L s i (h + 1)) := by
        rw [ev, ni_bit (by omega) (by omega)]
        have em : seeS L s i (h + 1) = seeS L s i h + if (seenC L s h).testBit i then 2 ^ h else 0 := rfl
        rw [em]
        by_cases hb : (seenC L s h).testBit i = true
        · rw [if_pos hb, if_pos hb, show (nI 1 : Int32) = 1 from rfl, ni_shl h (by omega), ni_or, or_add lt]
        · have z : ∀ q, q < 6 → (nI 0 : Int32) <<< (nI q &&& 31) = nI 0 := by decide +kernel
          rw [if_neg hb, if_neg hb, z h (by omega), ni_or]
          simp
      rw [e1]
      exact nx
  exact gX0_hillsThatSee_0 (loop L.1 0 (by omega))
theorem c_hillsThatBless {l1 l2 : Option Value} (c : pm_kd a = 0) (hL : landM L m) (hs : campM s a m) (K : Q (some (.int (nI (blessS L s L.1)))) m) : pm_G (d + 4) mX0_hillsThatBless 0 [some (.ref a), l1, l2] [] m Q := by
  have h6 := hL.2.1
  have loop : ∀ (k h : Nat), h + k = L.1 → pm_G (d + 4) mX0_hillsThatBless 4 [some (.ref a), some (.int (nI (blessS L s h))), some (.int (nI h))] [] m Q := by
    intro k
    induction k with
    | zero =>
      intro h hh
      have hin : h = L.1 := by omega
      subst hin
      have le : m.1 8 1 ≤ nI L.1 := by rw [hL.1]; exact Int32.le_refl _
      exact gX0_hillsThatBless_4 c (fun _ => K) (fun h => absurd le h)
    | succ k ih =>
      intro h hh
      have n1 : ¬ m.1 8 1 ≤ nI h := by
        rw [hL.1]
        intro z
        have := (ni_le (by omega) (by omega)).mp z
        omega
      have nx := ih (h + 1) (by omega)
      refine gX0_hillsThatBless_4 c (fun h => absurd h n1) ?_
      intro _
      refine c_wordFrom c hL hs (by omega) ?_
      have lt : blessS L s h < 2 ^ h := mkS_lt _ h
      have w3 : wordC L s h < 3 := wordI_lt _
      refine gX0_hillsThatBless_20 ?_ ?_
      · intro hw
        have hw := ni_ne (n := 1) hw
        rw [nI_1]
        simp only [blessS, mkS, hw] at nx
        simpa [blessS] using nx
      · intro hw
        have hw : wordC L s h = 1 := (ni_eq (by omega) (by omega)).mp hw
        rw [nI_1, ni_shl h (by omega), ni_or, or_add lt]
        simp only [blessS, mkS, hw] at nx
        simpa [blessS] using nx
  exact gX0_hillsThatBless_0 (loop L.1 0 (by omega))
def allBl (L : Ld) (s : Cs) : Prop := ∀ h, h < L.1 → wordC L s h = 1
theorem c_isBlessedByAll {l1 : Option Value} (c : pm_kd a = 0) (hL : landM L m) (hs : campM s a m) (Kt : allBl L s → Q (some (.int 1)) m) (Kf : ¬ allBl L s → Q (some (.int 0)) m) : pm_G (d + 4) mX0_isBlessedByAll 0 [some (.ref a), l1] [] m Q := by
  have h6 := hL.2.1
  have loop : ∀ (k h : Nat), h + k = L.1 → (∀ j, j < h → wordC L s j = 1) → pm_G (d + 4) mX0_isBlessedByAll 2 [some (.ref a), some (.int (nI h))] [] m Q := by
    intro k
    induction k with
    | zero =>
      intro h hh hb
      have hin : h = L.1 := by omega
      subst hin
      have le : m.1 8 1 ≤ nI L.1 := by rw [hL.1]; exact Int32.le_refl _
      exact gX0_isBlessedByAll_2 c (fun _ => Kt hb) (fun h => absurd le h)
    | succ k ih =>
      intro h hh hb
      have n1 : ¬ m.1 8 1 ≤ nI h := by
        rw [hL.1]
        intro z
        have := (ni_le (by omega) (by omega)).mp z
        omega
      have w3 : wordC L s h < 3 := wordI_lt _
      refine gX0_isBlessedByAll_2 c (fun h => absurd h n1) ?_
      intro _
      refine c_wordFrom c hL hs (by omega) ?_
      refine gX0_isBlessedByAll_18 ?_ ?_
      · intro hw
        have hw : wordC L s h = 1 := (ni_eq (by omega) (by omega)).mp hw
        rw [nI_1]
        exact ih (h + 1) (by omega) (fun j hj => by
          by_cases e : j = h
          · rw [e]; exact hw
          · exact hb j (by omega))
      · intro hw
        exact Kf (fun z => ni_ne (n := 1) hw (z h (by omega)))
  exact gX0_isBlessedByAll_0 (loop L.1 0 (by omega) (fun j hj => by omega))
def fateC (s : Cs) (i : Nat) : Nat := if s.2.2.2.1.testBit i then 1 else if s.2.2.2.2.testBit i then 2 else 0
theorem c_fateOf (c : pm_kd a = 0) (hs : campM s a m) (hi : i < 12) (K : Q (some (.int (nI (fateC s i)))) m) : pm_G d mX0_fateOf 0 [some (.ref a), some (.int (nI i))] [] m Q := by
  obtain ⟨s1, s2, s3, s4, s5, t1, t2, t3, t4⟩ := hs
  refine gX0_fateOf_0 c ?_ ?_ ?_ <;> rw [s4] <;> simp only [ni_bit0 (show s.2.2.2.1 < 2147483648 by omega) (show i < 31 by omega)]
  · intro h1 h2
    rw [s5, ni_bit0 (by omega) (by omega)] at h2
    rw [fateC, if_neg (by simp [h1]), if_neg (by simp [h2])] at K
    exact K
  · intro h1 h2
    rw [s5, ni_bit0 (by omega) (by omega)] at h2
    rw [fateC, if_neg (by simp [h1]), if_pos (by simpa using h2)] at K
    exact K
  · intro h1
    rw [fateC, if_pos (by simpa using h1)] at K
    exact K
end CAMP4

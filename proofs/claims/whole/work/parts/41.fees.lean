/-! fees -/
def feeV (s b c w : Nat) : Nat := if w = 0 then s else if w = 1 then b else c
/-- the first hill of the most, and the most and one -/
def bst (f : Nat → Nat) : Nat → Nat × Nat
  | 0 => (0, 0)
  | n + 1 => if f n + 1 ≤ (bst f n).2 then bst f n else (n, f n + 1)
theorem bst_spec (f : Nat → Nat) : ∀ n, (0 < n → (bst f n).1 < n ∧ f (bst f n).1 + 1 = (bst f n).2)
  | 0, h => absurd h (by omega)
  | n + 1, _ => by
    simp only [bst]
    split
    · rename_i z
      cases n with
      | zero => simp only [bst] at z; omega
      | succ n =>
        have := bst_spec f (n + 1) (by omega)
        exact ⟨by omega, this.2⟩
    · exact ⟨by simp, rfl⟩
theorem bst_le {f : Nat → Nat} (h : ∀ i, f i < 10) : ∀ n, (bst f n).2 ≤ 10
  | 0 => by simp [bst]
  | n + 1 => by
    simp only [bst]
    have := h n
    split
    · exact bst_le h n
    · show f n + 1 ≤ 10; omega
theorem le_sub1 {a b : Nat} (ha : a < 100) (hb : b < 100) : (nI a ≤ nI b - 1) ↔ a + 1 ≤ b := by
  cases b with
  | zero =>
    rw [Int32.le_iff_toInt_le, nI_toInt (by omega), show (nI 0 - 1).toInt = -1 from rfl]; omega
  | succ b => rw [nI_pred, ni_le (by omega) (by omega)]; omega
section FEES
variable {d : Nat} {m : pmMem} {Q : Option Value → pmMem → Prop} {S : Sg} {L : Ld} {s : Cs}
theorem c_bestHill {p q r : Nat} {l4 l5 l6 l7 : Option Value} (hp : p < 10) (hq : q < 10) (hr : r < 10) (hL : landM L m) (hs : campM s 20 m) (K : Q (some (.int (nI (bst (fun h => feeV p q r (wordC L s h)) L.1).1))) m) : pm_G (d + 4) mX6_bestHill 0 [some (.ref 0), some (.int (nI p)), some (.int (nI q)), some (.int (nI r)), l4, l5, l6, l7] [] m Q := by
  have h6 := hL.2.1
  have f10 : ∀ i, (fun h => feeV p q r (wordC L s h)) i < 10 := fun i => by
    show feeV p q r (wordC L s i) < 10
    unfold feeV
    split
    · exact hp
    · split
      · exact hq
      · exact hr
  have loop : ∀ (k i : Nat) (l7 : Option Value), i + k = L.1 → pm_G (d + 4) mX6_bestHill 9 [some (.ref 0), some (.int (nI p)), some (.int (nI q)), some (.int (nI r)), some (.int (nI (bst (fun h => feeV p q r (wordC L s h)) i).1)), some (.int (nI (bst (fun h => feeV p q r (wordC L s h)) i).2 - 1)), some (.int (nI i)), l7] [] m Q := by
    intro k
    induction k with
    | zero =>
      intro i l7 hi
      have hin : i = L.1 := by omega
      subst hin
      have le : m.1 8 1 ≤ nI L.1 := by rw [hL.1]; exact Int32.le_refl _
      exact gX6_bestHill_9 (fun _ => K) (fun z => absurd le z)
    | succ k ih =>
      intro i l7 hi
      have n1 : ¬ m.1 8 1 ≤ nI i := by
        rw [hL.1]
        intro z
        have := (ni_le (by omega) (by omega)).mp z
        omega
      have nx := fun l7 => ih (i + 1) l7 (by omega)
      have w3 : wordC L s i < 3 := wordI_lt _
      refine gX6_bestHill_9 (fun z => absurd z n1) (fun _ => c_wordFrom rfl hL hs (by omega) (gX6_bestHill_30 (c_feeOf w3 ?_)))
      have ef : (if wordC L s i = 0 then nI p else if wordC L s i = 1 then nI q else nI r) = nI (feeV p q r (wordC L s i)) := by
        unfold feeV
        split
        · rfl
        · split <;> rfl
      rw [ef]
      have fi : feeV p q r (wordC L s i) < 10 := f10 i
      have bl := bst_le f10 i
      simp only [bst] at nx
      refine gX6_bestHill_36 ?_ ?_ <;> rw [le_sub1 (by omega) (by omega), nI_1]
      · intro z
        have := nx (some (.int (nI (feeV p q r (wordC L s i)))))
        rw [if_pos z] at this
        exact this
      · intro z
        have := nx (some (.int (nI (feeV p q r (wordC L s i)))))
        rw [if_neg z] at this
        rw [show nI (feeV p q r (wordC L s i)) = nI (feeV p q r (wordC L s i) + 1) - 1 from (nI_pred _).symm]
        rw [nI_pred] at this ⊢
        exact this
  exact gX6_bestHill_0 (loop L.1 0 _ (by omega))
end FEES

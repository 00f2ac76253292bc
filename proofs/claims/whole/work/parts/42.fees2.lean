def wordD (S : Sg) (t h : Nat) : Nat := wordI (sumS ((sL S).2 h).1 ((sL S).2 h).2.1 ((sL S).2 h).2.2 (sS S).1 ((sS S).2.1 + t))
def feeD (S : Sg) (p q r t h : Nat) : Nat := feeV p q r (wordD S t h)
def feeSum (S : Sg) (p q r : Nat) : Nat → Nat
  | 0 => 0
  | t + 1 => feeSum S p q r t + ((bst (feeD S p q r t) (sL S).1).2 - 1)
def feeTold (S : Sg) (p q r n : Nat) : Int32 := if n = 0 then -9 else nI (bst (feeD S p q r 0) (sL S).1).1
def o_fees (S : Sg) (x a b c : Int32) : Int32 × Sg := match idx 10 x with
  | none => (-1, S)
  | some n => match idx 10 a with
    | none => (-1, S)
    | some p => match idx 10 b with
      | none => (-1, S)
      | some q => match idx 10 c with
        | none => (-1, S)
        | some r => if (sL S).1 = 0 then (-4, S) else (nI (feeSum S p q r n), tell S (feeTold S p q r n))
theorem feeV_lt {p q r w : Nat} (hp : p < 10) (hq : q < 10) (hr : r < 10) : feeV p q r w < 10 := by
  unfold feeV
  split
  · exact hp
  · split
    · exact hq
    · exact hr
section FEES2
variable {d : Nat} {m : pmMem} {Q : Option Value → pmMem → Prop} {S : Sg}
theorem C_feesL {p q r N : Nat} (hp : p < 10) (hq : q < 10) (hr : r < 10) (hN : N < 10) (h0 : (sL S).1 ≠ 0) (d40 : (sS S).2.1 ≤ 40) {m0 : pmMem} (K : okC (nI (feeSum S p q r N), tell S (feeTold S p q r N)) m0 Q) : ∀ (n t : Nat) (m1 : pmMem) (s1 : Cs) (l7 : Option Value), t + n = N → RC (tell S (feeTold S p q r t)) m1 → campM s1 20 m1 → s1.1 = (sS S).1 → s1.2.1 = (sS S).2.1 + t → ag (fun c => c < 65) m0 m1 → pm_G (d + 5) mX6_fees 67 [some (.ref 0), some (.int (nI N)), some (.int (nI p)), some (.int (nI q)), some (.int (nI r)), some (.int (nI (feeSum S p q r t))), some (.int (nI t)), l7] [] m1 Q := by
  intro n
  induction n with
  | zero =>
    intro t m1 s1 l7 ht h1 hs e1 e2 ha
    have e : t = N := by omega
    subst e
    exact gX6_fees_67 (fun _ => K m1 h1 ha) (fun z => absurd (Int32.le_refl _) z)
  | succ n ih =>
    intro t m1 s1 l7 ht h1 hs e1 e2 ha
    have nle : ¬ nI N ≤ nI t := fun z => by have := (ni_le (by omega) (by omega)).mp z; omega
    have ew : ∀ h, wordC (sL S) s1 h = wordD S t h := fun h => by unfold wordC sumC wordD; rw [e1, e2]
    have ef : (fun h => feeV p q r (wordC (sL S) s1 h)) = feeD S p q r t := by funext h; unfold feeD; rw [ew]
    have hL := h1.2.2.1
    have hb := bst_spec (feeD S p q r t) (sL S).1 (by omega)
    refine gX6_fees_67 (fun z => absurd z nle) (fun _ => c_bestHill hp hq hr hL hs ?_)
    rw [show (fun h => feeV p q r (wordC (sL (tell S (feeTold S p q r t))) s1 h)) = feeD S p q r t from ef]
    have w3 : wordD S t (bst (feeD S p q r t) (sL S).1).1 < 3 := wordI_lt _
    have rest : ∀ m2, RC (tell S (feeTold S p q r (t + 1))) m2 → campM s1 20 m2 → ag (fun c => c < 65) m0 m2 → pm_G (d + 4) mX0_wordFrom 0 [some (.ref 20), some (.int (nI (bst (feeD S p q r t) (sL S).1).1)), none] [] m2 (fun r' m' => pm_G (d + 5) mX6_fees 105 [some (.ref 0), some (.int (nI N)), some (.int (nI p)), some (.int (nI q)), some (.int (nI r)), some (.int (nI (feeSum S p q r t))), some (.int (nI t)), some (.int (nI (bst (feeD S p q r t) (sL S).1).1))] (pm_psh r' [.int (nI (feeSum S p q r t))]) m' Q) := by
      intro m2 h2 hs2 ha2
      refine c_wordFrom rfl h2.2.2.1 hs2 hb.1 ?_
      rw [show wordC (sL (tell S (feeTold S p q r (t + 1)))) s1 (bst (feeD S p q r t) (sL S).1).1 = wordD S t (bst (feeD S p q r t) (sL S).1).1 from ew _]
      refine gX6_fees_105 (c_feeOf w3 (gX6_fees_112 (fun m3 e3 => ?_)))
      have eq : (if wordD S t (bst (feeD S p q r t) (sL S).1).1 = 0 then nI p else if wordD S t (bst (feeD S p q r t) (sL S).1).1 = 1 then nI q else nI r) = nI ((bst (feeD S p q r t) (sL S).1).2 - 1) := by
        rw [← hb.2, Nat.add_sub_cancel]
        unfold feeD feeV
        split
        · rfl
        · split <;> rfl
      rw [eq, nI_add, nI_1]
      rw [hs2.2.1, nI_1] at e3
      have a3 : ag (inC 20) m2 m3 := by rw [e3]; exact ag_F (ag_refl _ _) (by unfold inC; omega)
      have l1 := h2.2.2.2.2.2.1.2.2.2.2.1
      refine ih (t + 1) m3 (dayC s1) _ (by omega) (RC_trial h2 a3 (by unfold campLen; rw [e3]; exact l1)) ?_ e1 ?_ (ag_trans ha2 (ag_mono (fun c z => by unfold inC at z; omega) a3))
      · obtain ⟨q1, q2, q3, q4, q5, q6⟩ := hs2
        rw [e3]
        refine ⟨q1, ?_, ?_, ?_, ?_, ⟨q6.1, ?_, q6.2.2⟩⟩
        · rw [pm_rF, if_pos ⟨rfl, rfl⟩]; rfl
        · rw [pm_rF, if_neg (by omega)]; exact q3
        · rw [pm_rF, if_neg (by omega)]; exact q4
        · rw [pm_rF, if_neg (by omega)]; exact q5
        · show s1.2.1 + 1 < 900; rw [e2]; omega
      · show s1.2.1 + 1 = _; rw [e2]; omega
    have t0 : (nI t = 0) ↔ t = 0 := ni_eq (b := 0) (by omega) (by omega)
    refine gX6_fees_81 ?_ ?_ <;> rw [t0]
    · intro z
      refine rest m1 ?_ hs ha
      have : feeTold S p q r (t + 1) = feeTold S p q r t := by unfold feeTold; rw [if_neg (by omega), if_neg z]
      rw [this]; exact h1
    · intro z m2 e3
      subst z
      have h2 : RC (tell S (feeTold S p q r (0 + 1))) m2 := by
        rw [e3]
        exact RC_tell (S := tell S (feeTold S p q r 0)) h1
      refine rest m2 h2 (campM_ag hs (show ag (fun c => c = 0) m1 m2 by rw [e3]; exact ag_F (ag_refl _ _) rfl) (by omega) (by omega)) (ag_trans ha (by rw [e3]; exact ag_F (ag_refl _ _) (by omega)))
end FEES2

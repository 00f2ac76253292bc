section FEES3
variable {d : Nat} {m : pmMem} {Q : Option Value → pmMem → Prop} {S : Sg}
theorem C_fees {x a b c : Int32} {l5 l6 l7 : Option Value} (h : RC S m) (K : okC (o_fees S x a b c) m Q) : pm_G (d + 5) mX6_fees 0 [some (.ref 0), some (.int x), some (.int a), some (.int b), some (.int c), l5, l6, l7] [] m Q := by
  have hL := h.2.2.1
  have d40 : (sS S).2.1 ≤ 40 := Nat.le_trans (replay_day _ _ _) h.2.2.2.1.2.2.2.2.1
  by_cases hx : 0 ≤ x.toInt ∧ x.toInt < (10 : Nat)
  · obtain ⟨n, i1, i2, i3⟩ := idx_some (n := 10) (by omega) hx.1 hx.2
    refine gX6_fees_0 (fun z => absurd (i32_neg.mp z) (by omega)) (fun _ z => absurd ((i32_lt (n := 9) (by omega)).mp z) (by omega)) (fun _ _ => c_isFee (fun p p1 p2 p3 => ?_) (fun p1 => ?_))
    · refine gX6_fees_14 (fun z => absurd z (by decide)) (fun _ => c_isFee (fun q q1 q2 q3 => ?_) (fun q1 => ?_))
      · refine gX6_fees_21 (fun z => absurd z (by decide)) (fun _ => c_isFee (fun r r1 r2 r3 => ?_) (fun r1 => ?_))
        · simp only [o_fees, i1, p1, q1, r1] at K
          refine gX6_fees_29 (fun _ => c_hasNoHills hL (fun hz => ?_) (fun hz => ?_)) (fun z => absurd z (by decide))
          · rw [if_pos hz] at K
            exact gX6_fees_38 (fun z => absurd z (by decide)) (fun _ => K m h (ag_refl _ _))
          · rw [if_neg hz] at K
            refine gX6_fees_38 (fun _ => c_trial h (fun m' h' hF hag => gX6_fees_55 (fun m1 e1 => ?_))) (fun z => absurd rfl z)
            rw [i3, p3, q3, r3]
            refine C_feesL p2 q2 r2 i2 hz d40 K n 0 m1 (sS S) _ (by omega) ?_ ?_ rfl rfl ?_
            · rw [e1]; exact RC_tell h'
            · exact campM_ag hF.1 (show ag (fun c => c = 0) m' m1 by rw [e1]; exact ag_F (ag_refl _ _) rfl) (by omega) (by omega)
            · rw [e1]
              exact ag_F (ag_mono (fun c z => by unfold inC at z; omega) hag) (by omega)
        · simp only [o_fees, i1, p1, q1, r1] at K
          exact gX6_fees_29 (fun z => absurd rfl z) (fun _ => K m h (ag_refl _ _))
      · simp only [o_fees, i1, p1, q1] at K
        exact gX6_fees_21 (fun _ => K m h (ag_refl _ _)) (fun z => absurd rfl z)
    · simp only [o_fees, i1, p1] at K
      exact gX6_fees_14 (fun _ => K m h (ag_refl _ _)) (fun z => absurd rfl z)
  · have i1 := idx_none hx
    simp only [o_fees, i1] at K
    refine gX6_fees_0 (fun _ => K m h (ag_refl _ _)) (fun _ _ => K m h (ag_refl _ _)) (fun z1 z2 => ?_)
    exfalso
    apply hx
    rw [i32_neg] at z1
    rw [show (9 : Int32) = nI 9 from rfl, i32_lt (by omega)] at z2
    omega
theorem R_fees {x a b c : Int32} {l5 l6 l7 l8 l9 l10 l11 : Option Value} (h : RR S m) (K : okR (o_fees S x a b c) m Q) : pm_G (d + 5) mX7_fees 0 [some (.ref 65), some (.int x), some (.int a), some (.int b), some (.int c), l5, l6, l7, l8, l9, l10, l11] [] m Q := by
  have hL := h.2.2.1
  have hL6 := hL.2.1
  have e0 : (m.1 65 4 = 0) ↔ (sL S).1 = 0 := by rw [hL.1]; exact ni_eq (b := 0) (by omega) (by omega)
  have d40 : (sS S).2.1 ≤ 40 := Nat.le_trans (replay_day _ _ _) h.2.2.2.1.2.2.2.1
  refine gX7_fees_0 (c7_in0 (n := 10) (by omega) (t64 x) rfl rfl (fun N i1 i2 i3 => ?_) (fun i1 => ?_))
  · refine gX7_fees_9 (fun z => absurd z (by decide)) (fun _ => c7_in0 (n := 10) (by omega) (t64 a) rfl rfl (fun p p1 p2 p3 => ?_) (fun p1 => ?_))
    · refine gX7_fees_21 (fun z => absurd z (by decide)) (fun _ => c7_in0 (n := 10) (by omega) (t64 b) rfl rfl (fun q q1 q2 q3 => ?_) (fun q1 => ?_))
      · refine gX7_fees_33 (fun z => absurd z (by decide)) (fun _ => c7_in0 (n := 10) (by omega) (t64 c) rfl rfl (fun r r1 r2 r3 => ?_) (fun r1 => ?_))
        · simp only [o_fees, i1, p1, q1, r1] at K
          refine gX7_fees_46 ?_ ?_ (fun z => absurd z (by decide)) <;> rw [e0]
          · intro _ hz
            rw [if_neg hz] at K
            refine c7_asideS h (fun m' h' hG hA hb => gX7_fees_65 ?_)
            have hN := h'.2.2.2.2.1
            have f15 : m'.1 65 15 = nI (sS S).2.1 := hN.2.2.1
            have hL' := h'.2.2.1
            rw [i3, p3, q3, r3]
            have f10 : ∀ t i, feeD S p q r t i < 10 := fun t i => feeV_lt p2 q2 r2
            have inner : ∀ (n i t : Nat) (l10 l11 : Option Value), i + n = (sL S).1 → t < N → (∀ (l9 l10 l11 : Option Value), pm_G (d + 5) mX7_fees 75 [some (.ref 65), some (.int (nI N)), some (.int (nI p)), some (.int (nI q)), some (.int (nI r)), some (.int (nI (feeSum S p q r (t + 1)))), some (.int (feeTold S p q r (t + 1))), some (.int (nI (t + 1))), some (.int (nI (bst (feeD S p q r t) (sL S).1).2 - 1)), l9, l10, l11] [] m' Q) → pm_G (d + 5) mX7_fees 87 [some (.ref 65), some (.int (nI N)), some (.int (nI p)), some (.int (nI q)), some (.int (nI r)), some (.int (nI (feeSum S p q r t))), some (.int (if t = 0 ∧ 0 < i then nI (bst (feeD S p q r 0) i).1 else feeTold S p q r t)), some (.int (nI t)), some (.int (nI (bst (feeD S p q r t) i).2 - 1)), some (.int (nI i)), l10, l11] [] m' Q := by
              intro n
              induction n with
              | zero =>
                intro i t l10 l11 hi ht K1
                have e : i = (sL S).1 := by omega
                subst e
                have le : m'.1 65 4 ≤ nI (sL S).1 := by rw [hL'.1]; exact Int32.le_refl _
                refine gX7_fees_87 (fun _ => ?_) (fun z => absurd le z)
                have hb2 := bst_spec (feeD S p q r t) (sL S).1 (by omega)
                have nx := K1 (some (.int (nI (sL S).1))) l10 l11
                have es : nI (feeSum S p q r t) + (nI (bst (feeD S p q r t) (sL S).1).2 - 1) = nI (feeSum S p q r (t + 1)) := by
                  rw [← hb2.2, nI_pred, nI_add]
                  simp only [feeSum]
                  rw [← hb2.2, Nat.add_sub_cancel]
                have et : (if t = 0 ∧ 0 < (sL S).1 then nI (bst (feeD S p q r 0) (sL S).1).1 else feeTold S p q r t) = feeTold S p q r (t + 1) := by
                  unfold feeTold
                  by_cases t0 : t = 0
                  · rw [if_pos ⟨t0, by omega⟩, if_neg (by omega)]
                  · rw [if_neg (by omega), if_neg t0, if_neg (by omega)]
                rw [es, et, nI_1]
                exact nx
              | succ n ih =>
                intro i t l10 l11 hi ht K1
                have nle : ¬ m'.1 65 4 ≤ nI i := by
                  rw [hL'.1]; intro z
                  have := (ni_le (by omega) (by omega)).mp z
                  omega
                refine gX7_fees_87 (fun z => absurd z nle) (fun _ => ?_)
                rw [f15, nI_add]
                refine c7_wordFrom hL' hG.1 hG.2.1 (by omega) (by omega) ?_
                rw [show wordI (sumS ((sL S).2 i).1 ((sL S).2 i).2.1 ((sL S).2 i).2.2 (sS S).1 ((sS S).2.1 + t)) = wordD S t i from rfl]
                have w3 : wordD S t i < 3 := wordI_lt _
                have bl := bst_le (f10 t) i
                have fi := f10 t i
                have z0 : (nI (wordD S t i) = 0) ↔ wordD S t i = 0 := ni_eq (b := 0) (by omega) (by omega)
                have z1 : (nI (wordD S t i) = 1) ↔ wordD S t i = 1 := ni_eq (b := 1) (by omega) (by omega)
                have t0 : (nI t = 0) ↔ t = 0 := ni_eq (b := 0) (by omega) (by omega)
                have lo : ∀ (f : Nat) (l10 l11 : Option Value), feeD S p q r t i = f → nI f ≤ nI (bst (feeD S p q r t) i).2 - 1 → pm_G (d + 5) mX7_fees 87 [some (.ref 65), some (.int (nI N)), some (.int (nI p)), some (.int (nI q)), some (.int (nI r)), some (.int (nI (feeSum S p q r t))), some (.int (if t = 0 ∧ 0 < i then nI (bst (feeD S p q r 0) i).1 else feeTold S p q r t)), some (.int (nI t)), some (.int (nI (bst (feeD S p q r t) i).2 - 1)), some (.int (nI i + 1)), l10, l11] [] m' Q := by
                  intro f l10 l11 hf hle
                  have nx := ih (i + 1) t l10 l11 (by omega) ht K1
                  subst hf
                  have hle2 := (le_sub1 (by omega) (by omega)).mp hle
                  have i0 : i ≠ 0 := by
                    intro e; subst e; simp only [bst] at hle2; omega
                  have eb : bst (feeD S p q r t) (i + 1) = bst (feeD S p q r t) i := by simp only [bst]; rw [if_pos hle2]
                  rw [eb] at nx
                  have et : (if t = 0 ∧ 0 < i + 1 then nI (bst (feeD S p q r 0) (i + 1)).1 else feeTold S p q r t) = (if t = 0 ∧ 0 < i then nI (bst (feeD S p q r 0) i).1 else feeTold S p q r t) := by
                    by_cases t1 : t = 0
                    · rw [if_pos ⟨t1, by omega⟩, if_pos ⟨t1, by omega⟩]; rw [t1] at eb; rw [eb]
                    · rw [if_neg (by omega), if_neg (by omega)]
                  rw [et] at nx
                  rw [nI_1]; exact nx
                have hi' : ∀ (f : Nat) (l10 l11 : Option Value), feeD S p q r t i = f → ¬ nI f ≤ nI (bst (feeD S p q r t) i).2 - 1 → pm_G (d + 5) mX7_fees 87 [some (.ref 65), some (.int (nI N)), some (.int (nI p)), some (.int (nI q)), some (.int (nI r)), some (.int (nI (feeSum S p q r t))), some (.int (if t = 0 then nI i else if t = 0 ∧ 0 < i then nI (bst (feeD S p q r 0) i).1 else feeTold S p q r t)), some (.int (nI t)), some (.int (nI f)), some (.int (nI i + 1)), l10, l11] [] m' Q := by
                  intro f l10 l11 hf hle
                  have nx := ih (i + 1) t l10 l11 (by omega) ht K1
                  subst hf
                  rw [le_sub1 (by omega) (by omega)] at hle
                  have eb : bst (feeD S p q r t) (i + 1) = (i, feeD S p q r t i + 1) := by simp only [bst]; rw [if_neg hle]
                  rw [eb] at nx
                  simp only [nI_pred] at nx
                  have et : (if t = 0 ∧ 0 < i + 1 then nI (bst (feeD S p q r 0) (i + 1)).1 else feeTold S p q r t) = (if t = 0 then nI i else if t = 0 ∧ 0 < i then nI (bst (feeD S p q r 0) i).1 else feeTold S p q r t) := by
                    by_cases t1 : t = 0
                    · rw [if_pos ⟨t1, by omega⟩, if_pos t1]; rw [t1] at eb; rw [eb]
                    · rw [if_neg (by omega), if_neg t1, if_neg (by omega)]
                  rw [et] at nx
                  rw [nI_1]; exact nx
                have fr : ¬ wordD S t i = 0 → ¬ wordD S t i = 1 → feeD S p q r t i = r := fun y0 y1 => by unfold feeD feeV; rw [if_neg y0, if_neg y1]
                have fq : ¬ wordD S t i = 0 → wordD S t i = 1 → feeD S p q r t i = q := fun y0 y1 => by unfold feeD feeV; rw [if_neg y0, if_pos y1]
                have fp : wordD S t i = 0 → feeD S p q r t i = p := fun y0 => by unfold feeD feeV; rw [if_pos y0]
                refine gX7_fees_109 ?_ ?_ ?_ ?_ ?_ ?_ ?_ ?_ ?_ ?_ ?_ ?_ <;> simp only [z0, z1, t0]
                · intro y0 y1 y2 y3; exact lo r _ _ (fr y0 y1) y3
                · intro y0 y1 y2 y3; have := hi' r (some (.int (nI (wordD S t i)))) (some (.int (nI r))) (fr y0 y1) y3; rw [if_neg y2] at this; exact this
                · intro y0 y1 y2 y3; exact lo r _ _ (fr y0 y1) y3
                · intro y0 y1 y2 y3; have := hi' r (some (.int (nI (wordD S t i)))) (some (.int (nI r))) (fr y0 y1) y3; rw [if_pos y2] at this; exact this
                · intro y0 y1 y2 y3; exact lo q _ _ (fq y0 y1) y3
                · intro y0 y1 y2 y3; have := hi' q (some (.int (nI (wordD S t i)))) (some (.int (nI q))) (fq y0 y1) y3; rw [if_neg y2] at this; exact this
                · intro y0 y1 y2 y3; exact lo q _ _ (fq y0 y1) y3
                · intro y0 y1 y2 y3; have := hi' q (some (.int (nI (wordD S t i)))) (some (.int (nI q))) (fq y0 y1) y3; rw [if_pos y2] at this; exact this
                · intro y0 y2 y3; exact lo p _ _ (fp y0) y3
                · intro y0 y2 y3; have := hi' p (some (.int (nI (wordD S t i)))) (some (.int (nI p))) (fp y0) y3; rw [if_neg y2] at this; exact this
                · intro y0 y2 y3; exact lo p _ _ (fp y0) y3
                · intro y0 y2 y3; have := hi' p (some (.int (nI (wordD S t i)))) (some (.int (nI p))) (fp y0) y3; rw [if_pos y2] at this; exact this
            have loop : ∀ (n t : Nat) (l8 l9 l10 l11 : Option Value), t + n = N → pm_G (d + 5) mX7_fees 75 [some (.ref 65), some (.int (nI N)), some (.int (nI p)), some (.int (nI q)), some (.int (nI r)), some (.int (nI (feeSum S p q r t))), some (.int (feeTold S p q r t)), some (.int (nI t)), l8, l9, l10, l11] [] m' Q := by
              intro n
              induction n with
              | zero =>
                intro t l8 l9 l10 l11 ht
                have e : t = N := by omega
                subst e
                refine gX7_fees_75 (fun _ m1 e1 => ?_) (fun z => absurd (Int32.le_refl _) z)
                rw [e1]
                exact K _ (RR_tell h') (ag_F hb (by omega))
              | succ n ih =>
                intro t l8 l9 l10 l11 ht
                refine gX7_fees_75 (fun z => ?_) (fun _ => ?_)
                · have := (ni_le (by omega) (by omega)).mp z
                  omega
                · have nx := inner (sL S).1 0 t l10 l11 (by omega) (by omega) (fun l9 l10 l11 => ih (t + 1) _ l9 l10 l11 (by omega))
                  rw [if_neg (by omega)] at nx
                  exact nx
            exact loop N 0 _ _ _ _ (by omega)
          · intro _ hz
            rw [if_pos hz] at K
            exact K m h (ag_refl _ _)
        · simp only [o_fees, i1, p1, q1, r1] at K
          exact gX7_fees_46 (fun z => absurd rfl z) (fun z => absurd rfl z) (fun _ => K m h (ag_refl _ _))
      · simp only [o_fees, i1, p1, q1] at K
        exact gX7_fees_33 (fun _ => K m h (ag_refl _ _)) (fun z => absurd rfl z)
    · simp only [o_fees, i1, p1] at K
      exact gX7_fees_21 (fun _ => K m h (ag_refl _ _)) (fun z => absurd rfl z)
  · simp only [o_fees, i1] at K
    exact gX7_fees_9 (fun _ => K m h (ag_refl _ _)) (fun z => absurd rfl z)
end FEES3

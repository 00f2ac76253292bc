section BLESSEDR
variable {d : Nat} {m : pmMem} {Q : Option Value → pmMem → Prop} {S : Sg} {L : Ld} {s : Cs}
theorem RR_aside {m m' : pmMem} {g : List Int32} {mk : Nat → Nat} (h : RR S m) (ha : agA scrR m m') (hG : asideG g mk m') : RR S m' := by
  refine RR_scr h ha (fun c z => by unfold scrR at z; omega) ⟨by rw [hG.1]; exact hG.2.1, by rw [hG.2.2.1, lst_len], ?_⟩
  rw [ha.2.2 82 (by unfold scrR; omega), ha.2.2 83 (by unfold scrR; omega), ha.2.2 84 (by unfold scrR; omega), ha.2.2 85 (by unfold scrR; omega), ha.2.2 86 (by unfold scrR; omega)]
  exact h.2.2.2.2.2.2.1.2.2
theorem c7_areBlessed (h : atR L s m) (K : Q (some (.int (if f1 L s then 1 else 0))) m) : pm_G (d + 6) mX7_areBlessed 0 [some (.ref 65)] [] m Q := by
  have h6 := h.1.2.1
  refine gX7_areBlessed_0 (c7_blessing h ?_)
  have e : ((1 : Int32) <<< ((m.1 65 4) &&& 31)) - 1 = nI (2 ^ L.1 - 1) := by
    rw [h.1.1, ni_shl _ (by omega)]
    exact nI_sub (b := 1) (Nat.pow_pos (by omega))
  have l1 : blessS L s L.1 < 64 := lt64 h6
  have l2 : 2 ^ L.1 - 1 < 64 := by
    have : 2 ^ L.1 ≤ 2 ^ 6 := Nat.pow_le_pow_right (by omega) h6
    omega
  refine gX7_areBlessed_4 ?_ ?_ <;> rw [e, ni_eq (by omega) (by omega)]
  · intro z
    rw [show f1 L s = false from decide_eq_false z] at K
    exact K
  · intro z
    rw [show f1 L s = true from decide_eq_true z] at K
    exact K
theorem at_sw {g : List Int32} {mk : Nat → Nat} {i j : Nat} {m1 : pmMem} (h : atR L s m) (hi : i < 12) (hj : j < 12) (ha : agA scrR m m1) (hG : asideG (swapG s.1 i j) mk m1) : atR L (swapC s i j) m1 :=
  ⟨landR_scr h.1 ha, hG.1, by rw [ha.1]; exact h.2.2.1, swapC_ok h.2.2.2 hi hj⟩
theorem r12 {c : Nat} (h : c < 100000) : nI c - nI c / 12 * 12 = nI (c % 12) := pk_rem (d := 12) (by omega) (by omega) (by omega)
theorem q12 {c : Nat} (h : c < 100000) : nI c / 12 = nI (c / 12) := pk_div (d := 12) (by omega) (by omega) (by omega)
theorem r144 {c : Nat} (h : c < 100000) : nI c - nI c / 144 * 144 = nI (c % 144) := pk_rem (d := 144) (by omega) (by omega) (by omega)
theorem q144 {c : Nat} (h : c < 100000) : nI c / 144 = nI (c / 144) := pk_div (d := 144) (by omega) (by omega) (by omega)
def ppB (L : Ld) (s : Cs) (e : Nat) : Bool := decide (e / 144 / 12 < e / 144 % 12) && pSw (f1 L) (swapC s (e / 144 / 12) (e / 144 % 12)) (e % 144)
theorem pp_none (h : ∀ e, e < 20736 → ppB L s e = false) : fstN (pSw (f2 L) s) 144 = none := by
  apply fstN_none
  intro c hc
  cases q : pSw (f2 L) s c with
  | false => rfl
  | true =>
    exfalso
    unfold pSw at q
    rw [Bool.and_eq_true] at q
    obtain ⟨c2, h1, h2⟩ := (fstN_is 144).mp q.2
    have := h (144 * c + c2) (by omega)
    unfold ppB at this
    rw [show (144 * c + c2) / 144 = c by omega, show (144 * c + c2) % 144 = c2 by omega, q.1, h2] at this
    exact absurd this (by decide)
theorem pp_some {t : Nat} (ht : t < 20736) (hp : ppB L s t = true) (h : ∀ e, e < t → ppB L s e = false) : fstN (pSw (f2 L) s) 144 = some (t / 144) := by
  unfold ppB at hp
  rw [Bool.and_eq_true] at hp
  refine fstN_some ?_ (fun c hc => ?_) 144 (by omega)
  · unfold pSw
    rw [hp.1, Bool.true_and]
    exact (fstN_is 144).mpr ⟨t % 144, by omega, hp.2⟩
  · cases q : pSw (f2 L) s c with
    | false => rfl
    | true =>
      exfalso
      unfold pSw at q
      rw [Bool.and_eq_true] at q
      obtain ⟨c2, h1, h2⟩ := (fstN_is 144).mp q.2
      have := h (144 * c + c2) (by omega)
      unfold ppB at this
      rw [show (144 * c + c2) / 144 = c by omega, show (144 * c + c2) % 144 = c2 by omega, q.1, h2] at this
      exact absurd this (by decide)
theorem R_blessed {l1 l2 l3 : Option Value} (h : RR S m) (K : okR (o_blessed S) m Q) : pm_G (d + 7) mX7_blessed 0 [some (.ref 65), l1, l2, l3] [] m Q := by
  have hL := h.2.2.1
  have hL6 := hL.2.1
  have e0 : (m.1 65 4 = 0) ↔ (sL S).1 = 0 := by rw [hL.1]; exact ni_eq (b := 0) (by omega) (by omega)
  have ok0 : csOk (sS S) := h.2.2.2.2.1.2.2.2.2
  refine gX7_blessed_0 ?_ ?_ <;> rw [e0]
  · intro hz
    simp only [o_blessed, if_neg hz] at K
    refine c7_asideS h (fun m1 h1 hG1 hA1 hb1 => gX7_blessed_14 (c7_areBlessed hA1 ?_))
    cases hf : f1 (sL S) (sS S) with
    | true =>
      rw [if_pos hf] at K
      refine gX7_blessed_18 (fun z => absurd z (by decide)) (fun _ m2 e2 => ?_)
      rw [e2]
      exact K _ (RR_tell h1) (ag_F hb1 (by omega))
    | false =>
      rw [if_neg (by rw [hf]; decide)] at K
      refine gX7_blessed_18 (fun _ => ?_) (fun z => absurd rfl z)
      have loop2 : fstN (pSw (f1 (sL S)) (sS S)) 144 = none → ∀ (n t : Nat) (m1 : pmMem) (l2 l3 : Option Value), t + n = 20736 → (∀ e, e < t → ppB (sL S) (sS S) e = false) → RR S m1 → ag (fun c => 65 ≤ c) m m1 → pm_G (d + 7) mX7_blessed 87 [some (.ref 65), some (.int (nI t)), l2, l3] [] m1 Q := by
        intro hn1 n
        rw [hn1] at K
        induction n with
        | zero =>
          intro t m1 l2 l3 ht inv h1 ha
          have e : t = 20736 := by omega
          subst e
          rw [pp_none inv] at K
          exact gX7_blessed_87 (fun _ => K m1 h1 ha) (fun z => absurd (by decide) z) (fun z => absurd (by decide) z) (fun z => absurd (by decide) z)
        | succ n ih =>
          intro t m1 l2 l3 ht inv h1 ha
          have nle : ¬ (20736 : Int32) ≤ nI t := fun z => by
            have := (ni_le (a := 20736) (by omega) (by omega)).mp z
            omega
          have skip : ppB (sL S) (sS S) t = false → ∀ l2 l3 m2, RR S m2 → ag (fun c => 65 ≤ c) m m2 → pm_G (d + 7) mX7_blessed 87 [some (.ref 65), some (.int (nI t + 1)), l2, l3] [] m2 Q := by
            intro hp l2 l3 m2 h2 ha2
            rw [nI_1]
            refine ih (t + 1) m2 l2 l3 (by omega) (fun e he => ?_) h2 ha2
            by_cases q : e = t
            · rw [q, hp]
            · exact inv e (by omega)
          refine gX7_blessed_87 (fun z => absurd z nle) ?_ ?_ ?_ <;> rw [r144 (by omega), q144 (by omega), r12 (by omega), q12 (by omega), ni_le (by omega) (by omega)]
          · intro _ z
            refine skip ?_ _ _ m1 h1 ha
            unfold ppB
            rw [decide_eq_false (by omega)]; rfl
          · rw [r12 (by omega), q12 (by omega), ni_le (by omega) (by omega)]
            intro _ z z2
            refine skip ?_ _ _ m1 h1 ha
            unfold ppB pSw
            rw [decide_eq_false (p := t % 144 / 12 < t % 144 % 12) (by omega), Bool.false_and, Bool.and_false]
          · rw [r12 (by omega), q12 (by omega), ni_le (by omega) (by omega)]
            intro _ z z2
            refine c7_asideS h1 (fun m2 h2 hG2 hA2 hb2 => gX7_blessed_132 ?_)
            rw [r12 (by omega), q12 (by omega)]
            refine c7_exchange hG2 (by omega) (by omega) (fun m3 hG3 ha3 => gX7_blessed_144 ?_)
            rw [r12 (by omega), q12 (by omega)]
            have hA3 := at_sw (g := []) hA2 (i := t / 144 / 12) (j := t / 144 % 12) (by omega) (by omega) ha3 hG3
            refine c7_exchange hG3 (by omega) (by omega) (fun m4 hG4 ha4 => gX7_blessed_156 ?_)
            have hA4 := at_sw (g := []) hA3 (i := t % 144 / 12) (j := t % 144 % 12) (by omega) (by omega) ha4 hG4
            have h4 : RR S m4 := RR_aside h2 (agA_trans ha3 ha4) hG4
            have ag4 : ag (fun c => 65 ≤ c) m m4 := ag_trans ha (ag_trans hb2 (ag_mono (fun c z => by unfold scrR at z; omega) (agA_trans ha3 ha4).ag))
            refine c7_areBlessed hA4 ?_
            have ep : ppB (sL S) (sS S) t = f1 (sL S) (swapC (swapC (sS S) (t / 144 / 12) (t / 144 % 12)) (t % 144 / 12) (t % 144 % 12)) := by
              unfold ppB pSw
              rw [decide_eq_true (p := t / 144 / 12 < t / 144 % 12) (by omega), decide_eq_true (p := t % 144 / 12 < t % 144 % 12) (by omega)]; rfl
            rw [← ep]
            cases hp : ppB (sL S) (sS S) t with
            | false =>
              exact gX7_blessed_160 (fun _ => skip hp _ _ m4 h4 ag4) (fun z => absurd rfl z)
            | true =>
              rw [pp_some (by omega) hp inv] at K
              refine gX7_blessed_160 (fun z => absurd z (by decide)) (fun _ m5 e5 => ?_)
              rw [e5]
              exact K _ (RR_tell h4) (ag_F ag4 (by omega))
      have loop1 : ∀ (n t : Nat) (m1 : pmMem) (l2 l3 : Option Value), t + n = 144 → (∀ e, e < t → pSw (f1 (sL S)) (sS S) e = false) → RR S m1 → ag (fun c => 65 ≤ c) m m1 → pm_G (d + 7) mX7_blessed 31 [some (.ref 65), some (.int (nI t)), l2, l3] [] m1 Q := by
        intro n
        induction n with
        | zero =>
          intro t m1 l2 l3 ht inv h1 ha
          have e : t = 144 := by omega
          subst e
          exact gX7_blessed_31 (fun _ => loop2 (fstN_none 144 inv) 20736 0 m1 _ _ (by omega) (fun e he => absurd he (by omega)) h1 ha) (fun z => absurd (by decide) z) (fun z => absurd (by decide) z)
        | succ n ih =>
          intro t m1 l2 l3 ht inv h1 ha
          have nle : ¬ (144 : Int32) ≤ nI t := fun z => by
            have := (ni_le (a := 144) (by omega) (by omega)).mp z
            omega
          have skip : pSw (f1 (sL S)) (sS S) t = false → ∀ l2 l3 m2, RR S m2 → ag (fun c => 65 ≤ c) m m2 → pm_G (d + 7) mX7_blessed 31 [some (.ref 65), some (.int (nI t + 1)), l2, l3] [] m2 Q := by
            intro hp l2 l3 m2 h2 ha2
            rw [nI_1]
            refine ih (t + 1) m2 l2 l3 (by omega) (fun e he => ?_) h2 ha2
            by_cases q : e = t
            · rw [q, hp]
            · exact inv e (by omega)
          refine gX7_blessed_31 (fun z => absurd z nle) ?_ ?_ <;> rw [r12 (by omega), q12 (by omega), ni_le (by omega) (by omega)]
          · intro _ z
            refine skip ?_ _ _ m1 h1 ha
            unfold pSw
            rw [decide_eq_false (by omega)]; rfl
          · intro _ z
            refine c7_asideS h1 (fun m2 h2 hG2 hA2 hb2 => gX7_blessed_53 ?_)
            rw [r12 (by omega), q12 (by omega)]
            refine c7_exchange hG2 (by omega) (by omega) (fun m3 hG3 ha3 => gX7_blessed_65 ?_)
            have hA3 := at_sw (g := []) hA2 (i := t / 12) (j := t % 12) (by omega) (by omega) ha3 hG3
            have h3 : RR S m3 := RR_aside h2 ha3 hG3
            have ag3 : ag (fun c => 65 ≤ c) m m3 := ag_trans ha (ag_trans hb2 (ag_mono (fun c z => by unfold scrR at z; omega) ha3.ag))
            refine c7_areBlessed hA3 ?_
            have ep : pSw (f1 (sL S)) (sS S) t = f1 (sL S) (swapC (sS S) (t / 12) (t % 12)) := by
              unfold pSw
              rw [decide_eq_true (p := t / 12 < t % 12) (by omega)]; rfl
            rw [← ep]
            cases hp : pSw (f1 (sL S)) (sS S) t with
            | false =>
              exact gX7_blessed_69 (fun _ => skip hp _ _ m3 h3 ag3) (fun z => absurd rfl z)
            | true =>
              rw [fstN_some hp inv 144 (by omega)] at K
              refine gX7_blessed_69 (fun z => absurd z (by decide)) (fun _ m5 e5 => ?_)
              rw [e5]
              exact K _ (RR_tell h3) (ag_F ag3 (by omega))
      exact loop1 144 0 m1 _ _ (by omega) (fun e he => absurd he (by omega)) h1 hb1
  · intro hz
    simp only [o_blessed, if_pos hz] at K
    exact K m h (ag_refl _ _)
end BLESSEDR

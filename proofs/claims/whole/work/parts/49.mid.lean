/-! the mean -/
def lieW (w : Nat) (b : Bool) : Nat := if w = 0 then 0 else if b then 3 - w else w
def mkF (L : Ld) (s : Cs) (l : Nat) : Nat → Nat → Nat
  | 0 => fateC s
  | h + 1 => sayK (seenC L s h) (lieW (wordC L s h) (l.testBit h)) (mkF L s l h)
def chF (p l : Nat) : Nat → Nat
  | 0 => 1
  | h + 1 => chF p l h * (if l.testBit h then p else 12 - p)
def midL (L : Ld) (s : Cs) (p : Nat) : Nat → Nat × Nat
  | 0 => (12 * cnt s.2.2.2.2, dif 4095 (s.2.2.2.1 ||| s.2.2.2.2))
  | h + 1 => if wordC L s h = 0 then midL L s p h else ((midL L s p h).1 + cnt ((midL L s p h).2 &&& seenC L s h) * chnN (wordC L s h) p, dif (midL L s p h).2 ((midL L s p h).2 &&& seenC L s h))
def sumN (f : Nat → Nat) : Nat → Nat
  | 0 => 0
  | n + 1 => sumN f n + f n
theorem sumN_congr {f g : Nat → Nat} : ∀ n, (∀ i, i < n → f i = g i) → sumN f n = sumN g n
  | 0, _ => rfl
  | n + 1, h => by simp only [sumN]; rw [sumN_congr n (fun i hi => h i (by omega)), h n (by omega)]
theorem sumN_add (f : Nat → Nat) (a : Nat) : ∀ b, sumN f (a + b) = sumN f a + sumN (fun i => f (a + i)) b
  | 0 => rfl
  | b + 1 => by
    rw [← Nat.add_assoc]
    simp only [sumN]
    rw [sumN_add f a b]; omega
theorem sumN_lin (A c : Nat → Nat) (a e : Nat) : ∀ n, sumN (fun l => A l * a * (c l + e)) n = a * sumN (fun l => A l * c l) n + a * e * sumN A n
  | 0 => by simp [sumN]
  | n + 1 => by
    simp only [sumN]
    rw [sumN_lin A c a e n]
    simp only [Nat.mul_add, Nat.mul_comm, Nat.mul_left_comm, Nat.mul_assoc]
    omega
theorem sumN_mul (A : Nat → Nat) (a : Nat) : ∀ n, sumN (fun l => A l * a) n = a * sumN A n
  | 0 => by simp [sumN]
  | n + 1 => by
    simp only [sumN]
    rw [sumN_mul A a n, Nat.mul_add, Nat.mul_comm (A n) a]
theorem mkF_hi (L : Ld) (s : Cs) {l k : Nat} : ∀ h, h ≤ k → mkF L s (2 ^ k + l) h = mkF L s l h
  | 0, _ => rfl
  | h + 1, hk => by
    simp only [mkF]
    rw [mkF_hi L s h (by omega), Nat.testBit_two_pow_add_gt (by omega)]
theorem chF_hi {p l k : Nat} : ∀ h, h ≤ k → chF p (2 ^ k + l) h = chF p l h
  | 0, _ => rfl
  | h + 1, hk => by
    simp only [chF]
    rw [chF_hi h (by omega), Nat.testBit_two_pow_add_gt (by omega)]
theorem cntB_or {p q r : Nat → Bool} : ∀ n, (∀ i, i < n → p i = (q i || r i)) → (∀ i, i < n → (q i && r i) = false) → cntB p n = cntB q n + cntB r n
  | 0, _, _ => rfl
  | n + 1, h1, h2 => by
    have a := cntB_or n (fun i hi => h1 i (by omega)) (fun i hi => h2 i (by omega))
    have b := h1 n (by omega)
    have c := h2 n (by omega)
    simp only [cntB]
    rw [a, b]
    cases hq : q n <;> cases hr : r n <;> rw [hq, hr] at c <;> simp at c ⊢ <;> omega
def frP (F : Nat) (mk : Nat → Nat) : Prop := ∀ i, i < 12 → (F.testBit i = true ↔ mk i = 0)
theorem cur_say {F sn w : Nat} {mk : Nat → Nat} (hf : frP F mk) : cnt (curS (sayK sn w mk)) = cnt (curS mk) + (if w = 2 then cnt (F &&& sn) else 0) := by
  unfold curS
  rw [cnt_mkS, cnt_mkS]
  by_cases h2 : w = 2
  · subst h2
    rw [if_pos rfl]
    have e : cnt (F &&& sn) = cntB (fun i => (F &&& sn).testBit i) 12 := pop_cntB _ 12
    rw [e]
    refine cntB_or 12 (fun i hi => ?_) (fun i hi => ?_)
    · have := hf i hi
      rw [Nat.testBit_and]
      unfold sayK
      by_cases h0 : mk i = 0
      · rw [this.mpr h0, h0]
        cases a : sn.testBit i <;> simp
      · have hF : F.testBit i = false := eq_false_of_ne_true (fun z => h0 (this.mp z))
        rw [hF, if_neg (fun z => h0 z.2)]; simp
    · have := hf i hi
      rw [Nat.testBit_and]
      cases a : sn.testBit i <;> cases b : F.testBit i <;> rw [b] at this <;> simp at this ⊢
      omega
  · rw [if_neg h2, Nat.add_zero]
    refine cntB_congr 12 (fun i hi => ?_)
    unfold sayK
    by_cases c : sn.testBit i = true ∧ mk i = 0
    · rw [if_pos c, c.2]; simp [h2]
    · rw [if_neg c]
theorem fr_0 (s : Cs) : frP (dif 4095 (s.2.2.2.1 ||| s.2.2.2.2)) (fateC s) := by
  intro i hi
  rw [dif_bit, Nat.testBit_or, show (4095 : Nat) = 2 ^ 12 - 1 from rfl, Nat.testBit_two_pow_sub_one]
  unfold fateC
  cases a : s.2.2.2.1.testBit i <;> cases b : s.2.2.2.2.testBit i <;> simp [hi]
theorem fr_S (L : Ld) (s : Cs) (p l : Nat) : ∀ h, frP (midL L s p h).2 (mkF L s l h)
  | 0 => fr_0 s
  | h + 1 => by
    have ih := fr_S L s p l h
    intro i hi
    have ihi := ih i hi
    simp only [midL, mkF]
    by_cases w0 : wordC L s h = 0
    · rw [if_pos w0]
      unfold sayK lieW
      rw [if_pos w0, ihi]
      by_cases c : (seenC L s h).testBit i = true ∧ mkF L s l h i = 0
      · rw [if_pos c]; simp [c.2]
      · rw [if_neg c]
    · rw [if_neg w0]
      have wl : lieW (wordC L s h) (l.testBit h) ≠ 0 := by
        have : wordC L s h < 3 := wordI_lt _
        unfold lieW
        rw [if_neg w0]
        split <;> omega
      show (dif (midL L s p h).2 ((midL L s p h).2 &&& seenC L s h)).testBit i = true ↔ _
      rw [dif_bit, Nat.testBit_and]
      unfold sayK
      cases a : (seenC L s h).testBit i <;> cases b : (midL L s p h).2.testBit i <;> rw [b] at ihi <;> simp at ihi ⊢
      · exact ihi
      · exact ihi
      · rw [if_neg ihi]; exact ihi
      · rw [if_pos ihi]; exact wl
theorem sum_ch {p : Nat} (hp : p ≤ 12) : ∀ h, sumN (fun l => chF p l h) (2 ^ h) = 12 ^ h
  | 0 => by simp [sumN, chF]
  | h + 1 => by
    have ih := sum_ch hp h
    rw [show 2 ^ (h + 1) = 2 ^ h + 2 ^ h by omega, sumN_add]
    rw [sumN_congr (f := fun l => chF p l (h + 1)) (g := fun l => chF p l h * (12 - p)) (2 ^ h) (fun l hl => by simp only [chF]; rw [Nat.testBit_lt_two_pow hl]; rfl)]
    rw [sumN_congr (f := fun l => chF p (2 ^ h + l) (h + 1)) (g := fun l => chF p l h * p) (2 ^ h) (fun l hl => by simp only [chF]; rw [chF_hi h (Nat.le_refl _), Nat.testBit_two_pow_add_eq, Nat.testBit_lt_two_pow hl]; rfl)]
    rw [sumN_mul, sumN_mul, ih, ← Nat.add_mul, show 12 - p + p = 12 by omega, Nat.pow_succ, Nat.mul_comm]
def midT (L : Ld) (s : Cs) (p h : Nat) : Nat := sumN (fun l => chF p l h * cnt (curS (mkF L s l h))) (2 ^ h)
theorem mid_T {L : Ld} {s : Cs} {p : Nat} (hp : p ≤ 12) (hd : dj s) (hc : s.2.2.2.2 < 4096) : ∀ h, 12 * midT L s p h = 12 ^ h * (midL L s p h).1
  | 0 => by
    simp only [midT, midL, sumN, chF, mkF, Nat.pow_zero]
    rw [show curS (fateC s) = s.2.2.2.2 from dj_fate hd hc]
    omega
  | h + 1 => by
    have ih := mid_T (L := L) hp hd hc h
    have e0 : ∀ l, l < 2 ^ h → chF p l (h + 1) * cnt (curS (mkF L s l (h + 1))) = chF p l h * (12 - p) * (cnt (curS (mkF L s l h)) + (if lieW (wordC L s h) false = 2 then cnt ((midL L s p h).2 &&& seenC L s h) else 0)) := fun l hl => by
      simp only [chF, mkF]
      rw [cur_say (fr_S L s p l h), Nat.testBit_lt_two_pow hl]; rfl
    have e1 : ∀ l, l < 2 ^ h → chF p (2 ^ h + l) (h + 1) * cnt (curS (mkF L s (2 ^ h + l) (h + 1))) = chF p l h * p * (cnt (curS (mkF L s l h)) + (if lieW (wordC L s h) true = 2 then cnt ((midL L s p h).2 &&& seenC L s h) else 0)) := fun l hl => by
      simp only [chF, mkF]
      rw [mkF_hi L s h (Nat.le_refl _), chF_hi h (Nat.le_refl _), cur_say (fr_S L s p l h), Nat.testBit_two_pow_add_eq, Nat.testBit_lt_two_pow hl]; rfl
    have sp : midT L s p (h + 1) = 12 * midT L s p h + 12 ^ h * ((12 - p) * (if lieW (wordC L s h) false = 2 then cnt ((midL L s p h).2 &&& seenC L s h) else 0) + p * (if lieW (wordC L s h) true = 2 then cnt ((midL L s p h).2 &&& seenC L s h) else 0)) := by
      unfold midT
      rw [show 2 ^ (h + 1) = 2 ^ h + 2 ^ h by omega, sumN_add, sumN_congr (2 ^ h) e0, sumN_congr (2 ^ h) e1, sumN_lin, sumN_lin, sum_ch hp h]
      generalize sumN (fun l => chF p l h * cnt (curS (mkF L s l h))) (2 ^ h) = T
      generalize (if lieW (wordC L s h) false = 2 then cnt ((midL L s p h).2 &&& seenC L s h) else 0) = a
      generalize (if lieW (wordC L s h) true = 2 then cnt ((midL L s p h).2 &&& seenC L s h) else 0) = b
      rw [show (12 - p) * T + (12 - p) * a * 12 ^ h + (p * T + p * b * 12 ^ h) = ((12 - p) + p) * T + ((12 - p) * a + p * b) * 12 ^ h by rw [Nat.add_mul, Nat.add_mul]; omega]
      rw [show 12 - p + p = 12 by omega, Nat.mul_comm (12 ^ h)]
    have ex : (12 - p) * (if lieW (wordC L s h) false = 2 then cnt ((midL L s p h).2 &&& seenC L s h) else 0) + p * (if lieW (wordC L s h) true = 2 then cnt ((midL L s p h).2 &&& seenC L s h) else 0) = cnt ((midL L s p h).2 &&& seenC L s h) * chnN (wordC L s h) p := by
      have w3 : wordC L s h < 3 := wordI_lt _
      generalize cnt ((midL L s p h).2 &&& seenC L s h) = k
      generalize wordC L s h = w at w3
      unfold lieW chnN
      rcases (show w = 0 ∨ w = 1 ∨ w = 2 by omega) with e | e | e <;> subst e <;> simp [Nat.mul_comm]
    have em : (midL L s p (h + 1)).1 = (midL L s p h).1 + cnt ((midL L s p h).2 &&& seenC L s h) * chnN (wordC L s h) p := by
      simp only [midL]
      by_cases w0 : wordC L s h = 0
      · rw [if_pos w0, w0]; simp [chnN]
      · rw [if_neg w0]
    rw [sp, ex, em, Nat.mul_add, ih]
    generalize cnt ((midL L s p h).2 &&& seenC L s h) * chnN (wordC L s h) p = X
    generalize (midL L s p h).1 = P
    rw [Nat.pow_succ, Nat.mul_add, Nat.mul_comm (12 ^ h) 12, Nat.mul_assoc, Nat.mul_assoc]
theorem midL_le {L : Ld} {s : Cs} {p : Nat} (hp : p ≤ 12) : ∀ h, (midL L s p h).1 ≤ 144 + 144 * h
  | 0 => by
    have := cnt_le s.2.2.2.2
    simp only [midL]; omega
  | h + 1 => by
    have ih := midL_le (L := L) (s := s) hp h
    simp only [midL]
    split
    · omega
    · have a := cnt_le ((midL L s p h).2 &&& seenC L s h)
      have b := chn_le (w := wordC L s h) hp
      have : cnt ((midL L s p h).2 &&& seenC L s h) * chnN (wordC L s h) p ≤ 12 * 12 := Nat.mul_le_mul a b
      show (midL L s p h).1 + _ ≤ _
      omega
theorem midF_lt {L : Ld} {s : Cs} {p : Nat} : ∀ h, (midL L s p h).2 < 4096
  | 0 => dif_lt (by omega)
  | h + 1 => by
    have ih := midF_lt (L := L) (s := s) (p := p) h
    simp only [midL]
    split
    · exact ih
    · exact dif_lt ih
theorem tellQ_k {S : Sg} {a b k : Nat} (hk : 0 < k) : tellQ S (k * a) (k * b) = tellQ S a b := by
  unfold tellQ
  rw [Nat.gcd_mul_left, Nat.mul_div_mul_left _ _ hk, Nat.mul_div_mul_left _ _ hk]
def o_mid (S : Sg) (x : Int32) : Int32 × Sg := match idx 13 x with
  | none => (-1, S)
  | some p => if (sL S).1 = 0 then (-4, S) else (1, tellQ S (midL (sL S) (sS S) p (sL S).1).1 12)
section MID
variable {d : Nat} {m : pmMem} {Q : Option Value → pmMem → Prop} {S : Sg}
theorem C_mid {x : Int32} {l2 l3 l4 l5 l6 : Option Value} (h : RC S m) (K : okC (o_mid S x) m Q) : pm_G (d + 5) mX6_mid 0 [some (.ref 0), some (.int x), l2, l3, l4, l5, l6] [] m Q := by
  have hL := h.2.2.1
  have hL6 := hL.2.1
  have C := h.2.2.2.1.1
  refine gX6_mid_0 (c_isChance (fun p hi hp hx => ?_) (fun hi => ?_))
  · simp only [o_mid, hi] at K
    refine gX6_mid_4 (fun _ => c_hasNoHills hL (fun hz => ?_) (fun hz => ?_)) (fun z => absurd z (by decide))
    · rw [if_pos hz] at K
      exact gX6_mid_13 (fun z => absurd z (by decide)) (fun _ => K m h (ag_refl _ _))
    · rw [if_neg hz] at K
      refine gX6_mid_13 (fun _ => ?_) (fun z => absurd rfl z)
      have loop : ∀ (k i : Nat) (l5 l6 : Option Value), i + k = (sL S).1 → pm_G (d + 5) mX6_mid 58 [some (.ref 0), some (.int x), some (.int (nI (midL (sL S) (sS S) p i).1)), some (.int (nI (midL (sL S) (sS S) p i).2)), some (.int (nI i)), l5, l6] [] m Q := by
        intro k
        induction k with
        | zero =>
          intro i l5 l6 hi
          have e : i = (sL S).1 := by omega
          subst e
          have le : m.1 8 1 ≤ nI (sL S).1 := by rw [hL.1]; exact Int32.le_refl _
          have bd := midL_le (L := sL S) (s := sS S) (p := p) (by omega) (sL S).1
          refine gX6_mid_58 (fun _ => ?_) (fun z => absurd le z)
          rw [nI_l (by omega)]
          exact c_tellParts (b := 12) h (by omega) (by omega) (by omega) (fun m' a b => gX6_mid_136 (K m' a b))
        | succ k ih =>
          intro i l5 l6 hi
          have nle : ¬ m.1 8 1 ≤ nI i := by rw [hL.1]; exact nle_ni (by omega) (by omega)
          have nx := fun l5 l6 => ih (i + 1) l5 l6 (by omega)
          have w3 : wordC (sL S) (sS S) i < 3 := wordI_lt _
          have w0 : (nI (wordC (sL S) (sS S) i) = 0) ↔ wordC (sL S) (sS S) i = 0 := ni_eq (b := 0) (by omega) (by omega)
          refine gX6_mid_58 (fun z => absurd z nle) (fun _ => c_wordFrom rfl hL C (by omega) ?_)
          refine gX6_mid_79 ?_ ?_ <;> rw [w0]
          · intro z
            simp only [midL, if_pos z] at nx
            rw [nI_1]; exact nx _ _
          · intro z
            simp only [midL, if_neg z] at nx
            refine c_seenFrom rfl hL C (by omega) (gX6_mid_96 ?_)
            rw [ni_and]
            have sl : (midL (sL S) (sS S) p i).2 &&& seenC (sL S) (sS S) i < 4096 := Nat.lt_of_le_of_lt Nat.and_le_left (midF_lt i)
            refine c_bitCount sl (gX6_mid_105 ?_)
            rw [hx]
            refine c_curseChance w3 (by omega) (gX6_mid_111 ?_)
            rw [pk_mul, nI_add, nI_1, ni_andn, ← hx]
            exact nx _ _
      rw [C.2.2.2.2.1]
      refine c_bitCount C.2.2.2.2.2.2.2.2 (gX6_mid_31 (fun v1 e1 => ?_))
      rw [C.2.2.2.1, C.2.2.2.2.1, ni_or, show (4095 : Int32) = nI 4095 from rfl, ni_andn] at e1
      rw [e1, show (12 : Int32) = nI 12 from rfl, pk_mul]
      exact loop (sL S).1 0 _ _ (by omega)
  · simp only [o_mid, hi] at K
    exact gX6_mid_4 (fun z => absurd rfl z) (fun _ => K m h (ag_refl _ _))
theorem R_mid {x : Int32} {l2 l3 l4 l5 l6 l7 l8 l9 l10 l11 : Option Value} (h : RR S m) (K : okR (o_mid S x) m Q) : pm_G (d + 5) mX7_mid 0 [some (.ref 65), some (.int x), l2, l3, l4, l5, l6, l7, l8, l9, l10, l11] [] m Q := by
  have hL := h.2.2.1
  have hL6 := hL.2.1
  have e0 : (m.1 65 4 = 0) ↔ (sL S).1 = 0 := by rw [hL.1]; exact ni_eq (b := 0) (by omega) (by omega)
  have d0 : dj (sS S) := dj_replay _ _ _
  have ok : csOk (sS S) := h.2.2.2.2.1.2.2.2.2
  have hd : (sS S).2.1 < 1000 := by have := ok.2.1; omega
  refine gX7_mid_0 (c7_in0 (n := 13) (by omega) (t64 x) rfl rfl (fun p hi hp hx => ?_) (fun hi => ?_))
  · simp only [o_mid, hi] at K
    refine gX7_mid_9 ?_ ?_ (fun z => absurd z (by decide)) <;> rw [e0]
    · intro _ hz
      rw [if_neg hz] at K
      have hp12 : p ≤ 12 := by omega
      obtain ⟨n, hn⟩ : ∃ n, (sL S).1 = n + 1 := ⟨(sL S).1 - 1, by omega⟩
      have p64 : 2 ^ (sL S).1 ≤ 64 := Nat.pow_le_pow_right (n := 2) (by omega) hL6
      have T12 : midT (sL S) (sS S) p (sL S).1 = 12 ^ n * (midL (sL S) (sS S) p (sL S).1).1 := by
        have := mid_T (L := sL S) hp12 d0 ok.2.2.2 (sL S).1
        rw [hn] at this ⊢
        rw [Nat.pow_succ, Nat.mul_comm (12 ^ n) 12, Nat.mul_assoc] at this
        exact Nat.eq_of_mul_eq_mul_left (by omega) this
      have q12 : 12 ^ (sL S).1 = 12 ^ n * 12 := by rw [hn, Nat.pow_succ]
      have pn : 12 ^ n ≤ 12 ^ 5 := Nat.pow_le_pow_right (by omega) (by omega)
      have pp : 0 < 12 ^ n := Nat.pow_pos (by omega)
      have bd := midL_le (L := sL S) (s := sS S) hp12 (sL S).1
      have Tlt : midT (sL S) (sS S) p (sL S).1 < 2 ^ 62 := by
        rw [T12]
        have : 12 ^ n * (midL (sL S) (sS S) p (sL S).1).1 ≤ 12 ^ 5 * 1008 := Nat.mul_le_mul pn (by omega)
        omega
      have fin : ∀ (m1 : pmMem) (l3 l5 l6 l7 l8 l9 l10 l11 : Option Value), RR S m1 → ag (fun c => 65 ≤ c) m m1 → pm_G (d + 4) mX7_tell 0 [some (.ref 65), some (.long (lN (midT (sL S) (sS S) p (sL S).1))), none, some (.long (lN (12 ^ (sL S).1))), none, none, none, none, none, none, none] [] m1 (fun r m' => pm_G (d + 5) mX7_mid 195 [some (.ref 65), some (.int x), some (.long (lN (midT (sL S) (sS S) p (sL S).1))), l3, some (.long (lN (12 ^ (sL S).1))), l5, some (.int (nI (2 ^ (sL S).1))), l7, l8, l9, l10, l11] (pm_psh r []) m' Q) := by
        intro m1 l3 l5 l6 l7 l8 l9 l10 l11 h1 ha
        refine c7_tell h1 Tlt (by rw [q12]; omega) (Nat.pow_pos (by omega)) (fun m2 h2 ha2 => gX7_mid_195 (K m2 ?_ (ag_trans ha ha2)))
        rw [T12, q12, tellQ_k pp] at h2
        exact h2
      have loopL : ∀ (k l : Nat) (m1 : pmMem) (l3 l5 l7 l8 l9 l10 l11 : Option Value), l + k = 2 ^ (sL S).1 → RR S m1 → ag (fun c => 65 ≤ c) m m1 → pm_G (d + 5) mX7_mid 58 [some (.ref 65), some (.int x), some (.long (lN (sumN (fun l => chF p l (sL S).1 * cnt (curS (mkF (sL S) (sS S) l (sL S).1))) l))), l3, some (.long (lN (12 ^ (sL S).1))), l5, some (.int (nI l)), l7, l8, l9, l10, l11] [] m1 Q := by
        intro k
        induction k with
        | zero =>
          intro l m1 l3 l5 l7 l8 l9 l10 l11 hl h1 ha
          have e : l = 2 ^ (sL S).1 := by omega
          subst e
          have hL1 := h1.2.2.1
          have le : ((1 : Int32) <<< ((m1.1 65 4) &&& 31)) ≤ nI (2 ^ (sL S).1) := by rw [hL1.1, ni_shl _ (by omega)]; exact Int32.le_refl _
          exact gX7_mid_58 (fun _ => fin m1 _ _ none _ _ _ _ _ h1 ha) (fun z => absurd le z)
        | succ k ih =>
          intro l m1 l3 l5 l7 l8 l9 l10 l11 hl h1 ha
          have hL1 := h1.2.2.1
          have nle : ¬ ((1 : Int32) <<< ((m1.1 65 4) &&& 31)) ≤ nI l := by rw [hL1.1, ni_shl _ (by omega)]; exact nle_ni (by omega) (by omega)
          refine gX7_mid_58 (fun z => absurd z nle) (fun _ => c7_asideS h1 (fun m2 h2 hG2 hA2 hb2 => gX7_mid_76 ?_))
          have f15 : m2.1 65 15 = nI (sS S).2.1 := h2.2.2.2.2.1.2.2.1
          have inner : ∀ (q i : Nat) (m3 : pmMem) (l8 l10 l11 : Option Value), i + q = (sL S).1 → asideG (sS S).1 (mkF (sL S) (sS S) l i) m3 → agA scrR m2 m3 → pm_G (d + 5) mX7_mid 79 [some (.ref 65), some (.int x), some (.long (lN (sumN (fun l => chF p l (sL S).1 * cnt (curS (mkF (sL S) (sS S) l (sL S).1))) l))), l3, some (.long (lN (12 ^ (sL S).1))), l5, some (.int (nI l)), some (.long (lN (chF p l i))), l8, some (.int (nI i)), l10, l11] [] m3 Q := by
            intro q
            induction q with
            | zero =>
              intro i m3 l8 l10 l11 hi hG3 ha3
              have e : i = (sL S).1 := by omega
              subst e
              have hL3 := landR_scr h2.2.2.1 ha3
              have le : m3.1 65 4 ≤ nI (sL S).1 := by rw [hL3.1]; exact Int32.le_refl _
              refine gX7_mid_79 (fun _ => c7_cursedAside hG3 (gX7_mid_175 (c7_ones (curS_lt _) (gX7_mid_178 ?_)))) (fun z => absurd le z)
              have := cnt_le (curS (mkF (sL S) (sS S) l (sL S).1))
              rw [nI_l (by omega), lN_mul, lN_add, nI_1]
              exact ih (l + 1) m3 _ _ _ _ _ _ _ (by omega) (RR_aside h2 ha3 hG3) (ag_trans ha (ag_trans hb2 (ag_mono (fun c z => by unfold scrR at z; omega) ha3.ag)))
            | succ q ihq =>
              intro i m3 l8 l10 l11 hi hG3 ha3
              have hL3 := landR_scr h2.2.2.1 ha3
              have nle : ¬ m3.1 65 4 ≤ nI i := by rw [hL3.1]; exact nle_ni (by omega) (by omega)
              have g15 : m3.1 65 15 = nI (sS S).2.1 := by rw [ha3.1]; exact f15
              have w3 : wordC (sL S) (sS S) i < 3 := wordI_lt _
              refine gX7_mid_79 (fun z => absurd z nle) (fun _ => c7_has (by omega) (by omega) (gX7_mid_95 ?_))
              rw [g15]
              refine c7_wordFrom hL3 hG3.1 hG3.2.1 (by omega) hd ?_
              rw [show wordI (sumS ((sL S).2 i).1 ((sL S).2 i).2.1 ((sL S).2 i).2.2 (sS S).1 (sS S).2.1) = wordC (sL S) (sS S) i from rfl]
              have z0 : (nI (wordC (sL S) (sS S) i) = 0) ↔ wordC (sL S) (sS S) i = 0 := ni_eq (b := 0) (by omega) (by omega)
              have go : ∀ (w c : Nat) (l10 l11 : Option Value), lieW (wordC (sL S) (sS S) i) (l.testBit i) = w → (if l.testBit i then p else 12 - p) = c → pm_G (d + 4) mX7_say 0 [some (.ref 65), some (.int (nI i)), some (.int (nI (sS S).2.1)), some (.int (nI w)), none, none] [] m3 (fun r m' => pm_G (d + 5) mX7_mid 162 [some (.ref 65), some (.int x), some (.long (lN (sumN (fun l => chF p l (sL S).1 * cnt (curS (mkF (sL S) (sS S) l (sL S).1))) l))), l3, some (.long (lN (12 ^ (sL S).1))), l5, some (.int (nI l)), some (.long (lN (chF p l i) * lN c)), none, some (.int (nI i)), some (.int (nI (if l.testBit i then 1 else 0))), some (.int (nI (wordC (sL S) (sS S) i)))] (pm_psh r []) m' Q) := by
                intro w c l10 l11 hw hc
                have wl : w < 3 := by
                  rw [← hw]; unfold lieW
                  split
                  · omega
                  · split <;> omega
                refine c7_say hL3 hG3 (by omega) hd wl (fun m4 hG4 ha4 => gX7_mid_162 ?_)
                have nx := ihq (i + 1) m4 (pm_kl none) (some (.int (nI (if l.testBit i then 1 else 0)))) (some (.int (nI (wordC (sL S) (sS S) i)))) (by omega) (by simp only [mkF]; rw [hw]; exact hG4) (agA_trans ha3 ha4)
                simp only [chF] at nx
                rw [hc, ← lN_mul] at nx
                rw [nI_1]
                exact nx
              cases hb : l.testBit i with
              | false =>
                rw [hb] at go
                refine gX7_mid_107 ?_ ?_ (fun z => absurd rfl z) (fun z => absurd rfl z) <;> rw [z0, g15, hx, show (12 : Int32) = nI 12 from rfl, nI_sub hp12, nI_l (by omega), ← hx]
                · intro _ z
                  exact go (wordC (sL S) (sS S) i) (12 - p) none none (by unfold lieW; rw [if_neg z]; rfl) rfl
                · intro _ z
                  exact go 0 (12 - p) none none (by unfold lieW; rw [if_pos z]) rfl
              | true =>
                rw [hb] at go
                refine gX7_mid_107 (fun z => absurd z (by decide)) (fun z => absurd z (by decide)) ?_ ?_ <;> rw [z0, g15, hx, nI_l (by omega), ← hx]
                · intro _ z
                  rw [show (3 : Int32) = nI 3 from rfl, nI_sub (by omega)]
                  exact go (3 - wordC (sL S) (sS S) i) p none none (by unfold lieW; rw [if_neg z]; rfl) rfl
                · intro _ z
                  exact go 0 p none none (by unfold lieW; rw [if_pos z]) rfl
          exact inner (sL S).1 0 m2 _ _ _ (by omega) hG2 (agA_refl _ _)
      have loop0 : ∀ (k i : Nat) (l3 l5 : Option Value), i + k = (sL S).1 → pm_G (d + 5) mX7_mid 32 [some (.ref 65), some (.int x), some (.long (lN 0)), l3, some (.long (lN (12 ^ i))), l5, some (.int (nI i)), l7, l8, l9, l10, l11] [] m Q := by
        intro k
        induction k with
        | zero =>
          intro i l3 l5 hi
          have e : i = (sL S).1 := by omega
          subst e
          have le : m.1 65 4 ≤ nI (sL S).1 := by rw [hL.1]; exact Int32.le_refl _
          exact gX7_mid_32 (fun _ => loopL (2 ^ (sL S).1) 0 m _ _ _ _ _ _ _ (by omega) h (ag_refl _ _)) (fun z => absurd le z)
        | succ k ih =>
          intro i l3 l5 hi
          have nle : ¬ m.1 65 4 ≤ nI i := by rw [hL.1]; exact nle_ni (by omega) (by omega)
          refine gX7_mid_32 (fun z => absurd z nle) (fun _ => ?_)
          rw [show (12 : Int64) = lN 12 from rfl, lN_mul, ← Nat.pow_succ, nI_1]
          exact ih (i + 1) _ _ (by omega)
      exact loop0 (sL S).1 0 _ _ (by omega)
    · intro _ hz
      rw [if_pos hz] at K
      exact K m h (ag_refl _ _)
  · simp only [o_mid, hi] at K
    exact gX7_mid_9 (fun z => absurd rfl z) (fun z => absurd rfl z) (fun _ => K m h (ag_refl _ _))
end MID

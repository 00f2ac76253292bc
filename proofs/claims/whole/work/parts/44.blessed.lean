/-! blessed -/
def fstN (p : Nat → Bool) : Nat → Option Nat
  | 0 => none
  | n + 1 => match fstN p n with
    | some c => some c
    | none => if p n then some n else none
theorem fstN_none {p : Nat → Bool} : ∀ n, (∀ c, c < n → p c = false) → fstN p n = none
  | 0, _ => rfl
  | n + 1, h => by
    simp only [fstN, fstN_none n (fun c hc => h c (by omega)), h n (by omega)]
    rfl
theorem fstN_some {p : Nat → Bool} {c : Nat} (hp : p c = true) (hb : ∀ e, e < c → p e = false) : ∀ n, c < n → fstN p n = some c
  | 0, h => absurd h (by omega)
  | n + 1, h => by
    by_cases e : c = n
    · subst e
      simp only [fstN, fstN_none c hb, hp]
      rfl
    · simp only [fstN, fstN_some hp hb n (by omega)]
theorem fstN_is {p : Nat → Bool} : ∀ n, (fstN p n).isSome = true ↔ ∃ c, c < n ∧ p c = true
  | 0 => by simp [fstN]
  | n + 1 => by
    have ih := fstN_is (p := p) n
    simp only [fstN]
    cases e : fstN p n with
    | some c =>
      rw [e] at ih
      obtain ⟨c, h1, h2⟩ := ih.mp rfl
      simp only [Option.isSome_some, true_iff]
      exact ⟨c, by omega, h2⟩
    | none =>
      rw [e] at ih
      have no : ∀ c, c < n → p c = false := fun c hc => by
        cases q : p c with
        | false => rfl
        | true => exact absurd (ih.mpr ⟨c, hc, q⟩) (by decide)
      cases q : p n with
      | true => simp only [if_true, Option.isSome_some, true_iff]; exact ⟨n, by omega, q⟩
      | false =>
        simp only [Bool.false_eq_true, if_false, Option.isSome_none, false_iff]
        intro ⟨c, h1, h2⟩
        by_cases e : c = n
        · subst e; rw [q] at h2; exact absurd h2 (by decide)
        · rw [no c (by omega)] at h2; exact absurd h2 (by decide)
def codeI (o : Option Nat) : Int32 := match o with
  | none => -9
  | some c => nI c
def f1 (L : Ld) (s : Cs) : Bool := decide (blessS L s L.1 = 2 ^ L.1 - 1)
def pSw (f : Cs → Bool) (s : Cs) (c : Nat) : Bool := decide (c / 12 < c % 12) && f (swapC s (c / 12) (c % 12))
def f2 (L : Ld) (s : Cs) : Bool := (fstN (pSw (f1 L) s) 144).isSome
def o_blessed (S : Sg) : Int32 × Sg := if (sL S).1 = 0 then (-4, S) else if f1 (sL S) (sS S) = true then (0, tell S (-9)) else match fstN (pSw (f1 (sL S)) (sS S)) 144 with
  | some c => (1, tell S (nI c))
  | none => match fstN (pSw (f2 (sL S)) (sS S)) 144 with
    | some c => (2, tell S (nI c))
    | none => (-9, S)
theorem f1_all {L : Ld} {s : Cs} : f1 L s = true ↔ allBl L s := by
  unfold f1 allBl blessS
  rw [decide_eq_true_eq]
  constructor
  · intro e h hh
    have : (mkS (fun h => decide (wordC L s h = 1)) L.1).testBit h = (2 ^ L.1 - 1).testBit h := by rw [e]
    rw [mkS_bit, Nat.testBit_two_pow_sub_one] at this
    simp only [hh, decide_true, Bool.true_and, decide_eq_true_eq] at this
    exact this
  · intro e
    apply Nat.eq_of_testBit_eq
    intro i
    rw [mkS_bit, Nat.testBit_two_pow_sub_one]
    by_cases hi : i < L.1
    · simp [hi, e i hi]
    · simp [hi]
theorem swapB_2 (s i j : Nat) : swapB (swapB s i j) i j = s := by
  apply Nat.eq_of_testBit_eq
  intro t
  rw [swapB_bit, swapB_bit]
  congr 1
  repeat' split
  all_goals omega
theorem swapG_2 {g : List Int32} {i j : Nat} (hg : g.length = 12) (hi : i < 12) (hj : j < 12) : swapG (swapG g i j) i j = g := by
  have l1 : (swapG g i j).length = 12 := by rw [swapG_len]; exact hg
  have l2 : (swapG (swapG g i j) i j).length = 12 := by rw [swapG_len]; exact l1
  refine Eq.trans (lst_of l2) (Eq.trans (lst_congr (fun t ht => ?_)) (lst_of hg).symm)
  rw [swapG_get l1 hi hj ht, swapG_get hg hi hj (by split; omega; split <;> omega)]
  congr 1
  repeat' split
  all_goals omega
theorem swapC_2 {s : Cs} {i j : Nat} (h : csOk s) (hi : i < 12) (hj : j < 12) : swapC (swapC s i j) i j = s := by
  unfold swapC
  rw [swapG_2 h.1 hi hj, swapB_2, swapB_2]
section BLESSED
variable {d : Nat} {m : pmMem} {Q : Option Value → pmMem → Prop} {S : Sg} {L : Ld} {s : Cs}
def atT (L : Ld) (s : Cs) (m0 m : pmMem) : Prop := landM L m ∧ campM s 20 m ∧ campLen 20 m ∧ ag (inC 20) m0 m
theorem c_swapT {i j : Nat} {m0 : pmMem} {l3 : Option Value} (h : atT L s m0 m) (hi : i < 12) (hj : j < 12) (K : ∀ m', atT L (swapC s i j) m0 m' → Q none m') : pm_G (d + 1) mX0_swap 0 [some (.ref 20), some (.int (nI i)), some (.int (nI j)), l3] [] m Q := by
  refine c_swap rfl h.2.1 hi hj (fun m' g1 g2 g3 g4 g5 => K m' ⟨landM_in rfl h.1 g5, g1, ?_, ag_trans h.2.2.2 g5⟩)
  unfold campLen
  rw [g3, g4]
  exact ⟨h.2.2.1.1, by rw [show m'.2.1 (20 + 2) = _ from g1.1]; exact g1.2.2.2.2.2.1, h.2.2.1.2.2⟩
theorem ni12 {i j : Nat} : ((12 : Int32) * nI i) + nI j = nI (12 * i + j) := by
  rw [show (12 : Int32) = nI 12 from rfl, pk_mul, nI_add]
theorem c_fcoL {m0 : pmMem} {x1 : Int32} {f : Cs → Bool} (step : ∀ (i j : Nat) (m1 : pmMem) (l4 : Option Value), i < 12 → j < 12 → atT L s m0 m1 → (∀ m2, atT L s m0 m2 → pm_G (d + 1) mX6_firstChangeOf 61 [some (.ref 20), some (.int x1), some (.int (nI i)), some (.int (nI j)), some (.int (if f (swapC s i j) then 1 else 0))] [] m2 Q) → pm_G (d + 1) mX6_firstChangeOf 12 [some (.ref 20), some (.int x1), some (.int (nI i)), some (.int (nI j)), l4] [] m1 Q) (K : ∀ m', atT L s m0 m' → Q (some (.int (codeI (fstN (pSw f s) 144)))) m') : ∀ (n i : Nat) (m1 : pmMem) (l3 l4 : Option Value), i + n = 12 → (∀ c, c < 12 * i → pSw f s c = false) → atT L s m0 m1 → pm_G (d + 1) mX6_firstChangeOf 2 [some (.ref 20), some (.int x1), some (.int (nI i)), l3, l4] [] m1 Q := by
  intro n
  induction n with
  | zero =>
    intro i m1 l3 l4 hi inv h1
    have e : i = 12 := by omega
    subst e
    refine gX6_firstChangeOf_2 (fun _ => ?_) (fun z => absurd (by decide) z)
    have := K m1 h1
    rw [fstN_none 144 inv] at this
    exact this
  | succ n ih =>
    intro i m1 l3 l4 hi inv h1
    refine gX6_firstChangeOf_2 (fun z => absurd z (n12 (by omega))) (fun _ => ?_)
    have inner : ∀ (k j : Nat) (m1 : pmMem) (l4 : Option Value), j + k = 12 → i < j → (∀ c, c < 12 * i + j → pSw f s c = false) → atT L s m0 m1 → pm_G (d + 1) mX6_firstChangeOf 12 [some (.ref 20), some (.int x1), some (.int (nI i)), some (.int (nI j)), l4] [] m1 Q := by
      intro k
      induction k with
      | zero =>
        intro j m1 l4 hj hij inv h1
        have e : j = 12 := by omega
        subst e
        refine gX6_firstChangeOf_12 rfl (fun _ => ?_) (fun z => absurd (by decide) z)
        rw [nI_1]
        exact ih (i + 1) m1 _ _ (by omega) (fun c hc => inv c (by omega)) h1
      | succ k ihk =>
        intro j m1 l4 hj hij inv h1
        refine step i j m1 l4 (by omega) (by omega) h1 (fun m2 h2 => ?_)
        have e1 : (12 * i + j) / 12 = i := by omega
        have e2 : (12 * i + j) % 12 = j := by omega
        have ep : pSw f s (12 * i + j) = f (swapC s i j) := by unfold pSw; rw [e1, e2]; simp [hij]
        cases hf : f (swapC s i j) with
        | false =>
          refine gX6_firstChangeOf_61 (fun _ => ?_) (fun z => absurd rfl z)
          rw [nI_1]
          refine ihk (j + 1) m2 _ (by omega) (by omega) (fun c hc => ?_) h2
          by_cases e : c = 12 * i + j
          · rw [e, ep, hf]
          · exact inv c (by omega)
        | true =>
          refine gX6_firstChangeOf_61 (fun z => absurd z (by decide)) (fun _ => ?_)
          have := K m2 h2
          rw [fstN_some (c := 12 * i + j) (by rw [ep, hf]) inv 144 (by omega)] at this
          rw [ni12]
          exact this
    rw [nI_1]
    refine inner (11 - i) (i + 1) m1 l4 (by omega) (by omega) (fun c hc => ?_) h1
    by_cases e : c < 12 * i
    · exact inv c e
    · unfold pSw
      have : ¬ c / 12 < c % 12 := by omega
      simp [this]
theorem c_fco1 {m0 : pmMem} {l2 l3 l4 : Option Value} (h : atT L s m0 m) (K : ∀ m', atT L s m0 m' → Q (some (.int (codeI (fstN (pSw (f1 L) s) 144)))) m') : pm_G (d + 5) mX6_firstChangeOf 0 [some (.ref 20), some (.int 1), l2, l3, l4] [] m Q := by
  have ok := h.2.1.2.2.2.2.2
  refine gX6_firstChangeOf_0 (c_fcoL (f := f1 L) (fun i j m1 l4 hi hj h1 K1 => ?_) K 12 0 m _ _ (by omega) (fun c hc => absurd hc (by omega)) h)
  refine gX6_firstChangeOf_12 rfl (fun z => absurd z (n12 (by omega))) (fun _ => c_swapT h1 hi hj (fun m2 h2 => gX6_firstChangeOf_24 rfl (fun _ => c_isBlessedByAll rfl h2.1 h2.2.1 (fun ha => ?_) (fun ha => ?_)) (fun z => absurd (by decide) z)))
  · refine gX6_firstChangeOf_53 rfl (c_swapT h2 hi hj (fun m3 h3 => ?_))
    rw [swapC_2 ok hi hj] at h3
    have := K1 m3 h3
    rw [if_pos (f1_all.mpr ha)] at this
    exact this
  · refine gX6_firstChangeOf_53 rfl (c_swapT h2 hi hj (fun m3 h3 => ?_))
    rw [swapC_2 ok hi hj] at h3
    have := K1 m3 h3
    rw [if_neg (fun z => ha (f1_all.mp z))] at this
    exact this
theorem codeI_9 {o : Option Nat} (h : ∀ c, o = some c → c < 1000) : (codeI o = -9) ↔ o.isSome = false := by
  cases o with
  | none => simp [codeI]
  | some c =>
    simp only [codeI, Option.isSome_some, Bool.true_eq_false, iff_false]
    intro z
    have := congrArg Int32.toInt z
    rw [nI_toInt (by have := h c rfl; omega)] at this
    have : (c : Int) = -9 := this
    omega
theorem fstN_lt {p : Nat → Bool} {c : Nat} : ∀ n, fstN p n = some c → c < n
  | 0, h => by simp [fstN] at h
  | n + 1, h => by
    simp only [fstN] at h
    cases e : fstN p n with
    | some x => rw [e] at h; simp only [Option.some.injEq] at h; have := fstN_lt n e; omega
    | none =>
      rw [e] at h
      by_cases q : p n = true
      · simp only [if_pos q, Option.some.injEq] at h; omega
      · simp only [if_neg q] at h; exact absurd h (by simp)
theorem c_fco2 {m0 : pmMem} {l2 l3 l4 : Option Value} (h : atT L s m0 m) (K : ∀ m', atT L s m0 m' → Q (some (.int (codeI (fstN (pSw (f2 L) s) 144)))) m') : pm_G (d + 6) mX6_firstChangeOf 0 [some (.ref 20), some (.int 2), l2, l3, l4] [] m Q := by
  have ok := h.2.1.2.2.2.2.2
  refine gX6_firstChangeOf_0 (c_fcoL (f := f2 L) (fun i j m1 l4 hi hj h1 K1 => ?_) K 12 0 m _ _ (by omega) (fun c hc => absurd hc (by omega)) h)
  refine gX6_firstChangeOf_12 rfl (fun z => absurd z (n12 (by omega))) (fun _ => c_swapT h1 hi hj (fun m2 h2 => gX6_firstChangeOf_24 rfl (fun z => absurd z (by decide)) (fun _ => c_fco1 h2 (fun m3 h3 => ?_))))
  have e9 := codeI_9 (o := fstN (pSw (f1 L) (swapC s i j)) 144) (fun c hc => by have := fstN_lt 144 hc; omega)
  refine gX6_firstChangeOf_36 rfl ?_ ?_ <;> rw [e9]
  · intro z
    refine c_swapT h3 hi hj (fun m4 h4 => ?_)
    rw [swapC_2 ok hi hj] at h4
    have := K1 m4 h4
    unfold f2 at this
    rw [z] at this
    exact this
  · intro z
    refine c_swapT h3 hi hj (fun m4 h4 => ?_)
    rw [swapC_2 ok hi hj] at h4
    have := K1 m4 h4
    unfold f2 at this
    rw [eq_true_of_ne_false z] at this
    exact this
theorem C_blessed {l1 l2 : Option Value} (h : RC S m) (K : okC (o_blessed S) m Q) : pm_G (d + 7) mX6_blessed 0 [some (.ref 0), l1, l2] [] m Q := by
  have hL := h.2.2.1
  refine gX6_blessed_0 (c_hasNoHills hL (fun hz => ?_) (fun hz => ?_))
  · simp only [o_blessed, if_pos hz] at K
    exact gX6_blessed_4 (fun z => absurd z (by decide)) (fun _ => K m h (ag_refl _ _))
  · simp only [o_blessed, if_neg hz] at K
    refine gX6_blessed_4 (fun _ => c_trial h (fun m1 h1 hF1 ha1 => gX6_blessed_21 ?_)) (fun z => absurd rfl z)
    have T1 : atT (sL S) (sS S) m1 m1 := ⟨h1.2.2.1, hF1.1, len_of_campF hF1, ag_refl _ _⟩
    have a65 : ∀ m2, atT (sL S) (sS S) m1 m2 → RC S m2 ∧ ag (fun c => c < 65) m m2 := fun m2 h2 => ⟨RC_trial h1 h2.2.2.2 h2.2.2.1, ag_trans (ag_mono (fun c z => by unfold inC at z; omega) ha1) (ag_mono (fun c z => by unfold inC at z; omega) h2.2.2.2)⟩
    refine c_isBlessedByAll rfl h1.2.2.1 hF1.1 (fun hb => ?_) (fun hb => ?_)
    · rw [if_pos (f1_all.mpr hb)] at K
      refine gX6_blessed_28 (fun z => absurd z (by decide)) (fun _ m2 e2 => ?_)
      rw [e2]
      exact K _ (RC_tell h1) (ag_F (a65 m1 T1).2 (by omega))
    · rw [if_neg (fun z => hb (f1_all.mp z))] at K
      refine gX6_blessed_28 (fun _ => gX6_blessed_41 (fun z => absurd z (by decide)) (fun _ => c_fco1 T1 (fun m2 h2 => ?_))) (fun z => absurd rfl z)
      have e9 := codeI_9 (o := fstN (pSw (f1 (sL S)) (sS S)) 144) (fun c hc => by have := fstN_lt 144 hc; omega)
      cases ho : fstN (pSw (f1 (sL S)) (sS S)) 144 with
      | some c =>
        rw [ho] at e9 K
        refine gX6_blessed_54 (fun z => absurd (e9.mp z) (by simp)) (fun _ m3 e3 => ?_)
        rw [e3]
        exact K _ (RC_tell (a65 m2 h2).1) (ag_F (a65 m2 h2).2 (by omega))
      | none =>
        rw [ho] at K
        refine gX6_blessed_54 (fun _ => gX6_blessed_41 (fun z => absurd z (by decide)) (fun _ => c_fco2 h2 (fun m3 h3 => ?_))) (fun z => absurd rfl z)
        have e9 := codeI_9 (o := fstN (pSw (f2 (sL S)) (sS S)) 144) (fun c hc => by have := fstN_lt 144 hc; omega)
        cases ho : fstN (pSw (f2 (sL S)) (sS S)) 144 with
        | some c =>
          rw [ho] at e9 K
          refine gX6_blessed_54 (fun z => absurd (e9.mp z) (by simp)) (fun _ m4 e4 => ?_)
          rw [e4]
          exact K _ (RC_tell (a65 m3 h3).1) (ag_F (a65 m3 h3).2 (by omega))
        | none =>
          rw [ho] at K
          exact gX6_blessed_54 (fun _ => gX6_blessed_41 (fun _ => K m3 (a65 m3 h3).1 (a65 m3 h3).2) (fun z => absurd (by decide) z)) (fun z => absurd rfl z)
end BLESSED

/-! parts of a whole -/
theorem gcd_step (a b : Nat) : Nat.gcd b (a % b) = Nat.gcd a b := by
  rw [Nat.gcd_comm b (a % b), ← Nat.gcd_rec, Nat.gcd_comm]
theorem RC_tellP {S : Sg} {m : pmMem} {u l : Int64} (h : RC S m) : RC (tellP S u l) (pm_setL (pm_setL m 0 12 u) 0 13 l) := by
  have h7 := h.2.2.2.2.2.2.1
  have h8 := h.2.2.2.2.2.2.2.1
  refine RC_upd h (ag_L (S := fun c => c = 0) (ag_L (ag_refl _ _) rfl) rfl) (Or.inl ⟨rfl, fun c _ _ z => by omega⟩) (Or.inl ⟨rfl, fun c _ _ z => by omega⟩) (Or.inl ⟨rfl, fun c _ _ z => by omega⟩) (Or.inl ⟨rfl, rfl, rfl, fun c _ _ z => by omega⟩) (Or.inl ⟨rfl, rfl, rfl, fun z => by omega, fun c _ _ z => by omega⟩) (Or.inl fun c _ z => by omega) (Or.inr ⟨h7.1, ?_, ?_⟩) (Or.inr ⟨h8.1, h8.2.1, h8.2.2⟩) h.2.2.2.2.2.2.2.2
  · rw [pm_rL, if_neg (by omega), pm_rL, if_pos ⟨rfl, rfl⟩]; rfl
  · rw [pm_rL, if_pos ⟨rfl, rfl⟩]; rfl
theorem RR_tellP {S : Sg} {m : pmMem} {u l : Int64} (h : RR S m) : RR (tellP S u l) (pm_setL (pm_setL m 65 20 u) 65 21 l) := by
  have h8 := h.2.2.2.2.2.2.2.1
  refine RR_upd h (agR_L (D := fun _ => False) (E := fun _ => False) (G := fun k => k = 20 ∨ k = 21) (agR_L (agR_refl _ _ _ _) (Or.inl rfl)) (Or.inr rfl)) (Or.inl ⟨rfl, id, id⟩) (Or.inl ⟨rfl, id, id⟩) (Or.inl ⟨rfl, id, id, id, id⟩) (Or.inl ⟨rfl, rfl, id, id, id⟩) (Or.inl ⟨rfl, rfl, rfl, id, id, id, id⟩) (Or.inl ⟨rfl, id, id⟩) (Or.inl fun _ _ => id) (Or.inr ⟨h8.1, ?_, ?_⟩) (Or.inl ⟨rfl, id, id⟩) h.2.2.2.2.2.2.2.2.2
  · rw [pm_rL, if_neg (by omega), pm_rL, if_pos ⟨rfl, rfl⟩]; rfl
  · rw [pm_rL, if_pos ⟨rfl, rfl⟩]; rfl
def tellQ (S : Sg) (a b : Nat) : Sg := tellP S (lN (a / Nat.gcd a b)) (lN (b / Nat.gcd a b))
section ODDS
variable {d : Nat} {m : pmMem} {Q : Option Value → pmMem → Prop} {S : Sg}
theorem l0 {b : Nat} (h : b < 2 ^ 62) : (lN b = 0) ↔ b = 0 := pk_lEQ (b := 0) (by omega) (by omega)
theorem c_commonDivisor {a b : Nat} {l1 l3 l4 l5 l6 : Option Value} (ha : a < 2 ^ 62) (hb : b ≤ 100) (K : Q (some (.long (lN (Nat.gcd a b)))) m) : pm_G d mX6_commonDivisor 0 [some (.long (lN a)), l1, some (.long (lN b)), l3, l4, l5, l6] [] m Q := by
  have loop : ∀ (n b a t : Nat) (l1 l3 l5 l6 : Option Value), b ≤ n → a < 2 ^ 62 → t + b ≤ 150 → Q (some (.long (lN (Nat.gcd a b)))) m → pm_G d mX6_commonDivisor 3 [some (.long (lN a)), l1, some (.long (lN b)), l3, some (.int (nI t)), l5, l6] [] m Q := by
    intro n
    induction n with
    | zero =>
      intro b a t l1 l3 l5 l6 hb ha ht K
      have hb0 : b = 0 := by omega
      subst hb0
      rw [Nat.gcd_zero_right] at K
      exact gX6_commonDivisor_3 (fun _ z => absurd rfl z) (fun _ => K) (fun _ _ => K) (fun _ z => absurd rfl z)
    | succ n ih =>
      intro b a t l1 l3 l5 l6 hb ha ht K
      by_cases hb0 : b = 0
      · subst hb0
        rw [Nat.gcd_zero_right] at K
        exact gX6_commonDivisor_3 (fun _ z => absurd rfl z) (fun _ => K) (fun _ _ => K) (fun _ z => absurd rfl z)
      · have nb : ¬ lN b = 0 := fun z => hb0 ((l0 (by omega)).mp z)
        have n2 : ¬ (200 : Int32) ≤ nI t := by
          intro z
          have := (ni_le (a := 200) (by omega) (by omega)).mp z
          omega
        refine gX6_commonDivisor_3 (fun _ _ => nb) (fun z => absurd z n2) (fun _ z => absurd z nb) (fun _ _ => ?_)
        rw [pk_lRem (by omega) (by omega) (by omega), nI_1]
        have lt := Nat.mod_lt a (show 0 < b by omega)
        refine ih (a % b) b (t + 1) _ _ _ _ (by omega) (by omega) (by omega) ?_
        rw [gcd_step]; exact K
  exact gX6_commonDivisor_0 (loop b b a 0 _ _ _ _ (Nat.le_refl _) ha (by omega) K)
theorem c_tellParts {a b : Nat} {l2 l4 l5 l6 : Option Value} (h : RC S m) (ha : a < 2 ^ 62) (hb : b ≤ 100) (hb0 : 0 < b) (K : ∀ m', RC (tellQ S a b) m' → ag (fun c => c < 65) m m' → Q none m') : pm_G (d + 1) mX6_tellParts 0 [some (.ref 0), some (.long (lN a)), l2, some (.long (lN b)), l4, l5, l6] [] m Q := by
  have g0 : 0 < Nat.gcd a b := Nat.gcd_pos_of_pos_right a hb0
  have gb : Nat.gcd a b ≤ b := Nat.gcd_le_right a hb0
  have nz : ¬ lN (Nat.gcd a b) = 0 := fun z => by have := (l0 (by omega)).mp z; omega
  refine gX6_tellParts_0 (c_commonDivisor ha hb (gX6_tellParts_5 (fun _ => nz) (fun _ _ _ => nz) (fun z => ?_) (fun _ m1 e1 m2 e2 => ?_)))
  · have := (pk_lLE (b := 0) (by omega) (by omega)).mp z
    omega
  · rw [pk_lDiv (by omega) g0 (by omega)] at e1 e2
    rw [e2, e1]
    exact K _ (RC_tellP h) (ag_L (ag_L (ag_refl _ _) (by omega)) (by omega))
theorem c7_tell {a b : Nat} {l2 l4 l5 l6 l7 l8 l9 l10 : Option Value} (h : RR S m) (ha : a < 2 ^ 62) (hb : b < 2 ^ 62) (hb0 : 0 < b) (K : ∀ m', RR (tellQ S a b) m' → ag (fun c => 65 ≤ c) m m' → Q none m') : pm_G d mX7_tell 0 [some (.ref 65), some (.long (lN a)), l2, some (.long (lN b)), l4, l5, l6, l7, l8, l9, l10] [] m Q := by
  have loop : ∀ (n y x : Nat) (l2 l4 l6 l8 l9 l10 : Option Value), y ≤ n → x < 2 ^ 62 → y < 2 ^ 62 → Nat.gcd x y = Nat.gcd a b → pm_G d mX7_tell 6 [some (.ref 65), some (.long (lN a)), l2, some (.long (lN b)), l4, some (.long (lN x)), l6, some (.long (lN y)), l8, l9, l10] [] m Q := by
    intro n
    have fin : ∀ (x : Nat) (l2 l4 l6 l8 l9 l10 : Option Value), x < 2 ^ 62 → Nat.gcd x 0 = Nat.gcd a b → pm_G d mX7_tell 6 [some (.ref 65), some (.long (lN a)), l2, some (.long (lN b)), l4, some (.long (lN x)), l6, some (.long (lN 0)), l8, l9, l10] [] m Q := by
      intro x l2 l4 l6 l8 l9 l10 hx hg
      rw [Nat.gcd_zero_right] at hg
      have g0 : 0 < Nat.gcd a b := Nat.gcd_pos_of_pos_right a hb0
      have nz : ¬ lN x = 0 := fun z => by have := (l0 hx).mp z; omega
      refine gX7_tell_6 (fun _ => nz) (fun _ _ _ => nz) (fun z => absurd rfl z) (fun _ m1 e1 m2 e2 => ?_) (fun z => absurd rfl z)
      rw [pk_lDiv (by omega) (by omega) (by omega)] at e1 e2
      rw [e2, e1, hg]
      exact K _ (RR_tellP h) (ag_L (ag_L (ag_refl _ _) (by omega)) (by omega))
    induction n with
    | zero =>
      intro y x l2 l4 l6 l8 l9 l10 hy hx _ hg
      have hy0 : y = 0 := by omega
      subst hy0
      exact fin x _ _ _ _ _ _ hx hg
    | succ n ih =>
      intro y x l2 l4 l6 l8 l9 l10 hy hx hy2 hg
      by_cases hy0 : y = 0
      · subst hy0
        exact fin x _ _ _ _ _ _ hx hg
      · have ny : ¬ lN y = 0 := fun z => hy0 ((l0 hy2).mp z)
        have lt := Nat.mod_lt x (show 0 < y by omega)
        refine gX7_tell_6 (fun z => absurd z ny) (fun z => absurd z ny) (fun _ => ny) (fun z => absurd z ny) (fun _ => ?_)
        rw [pk_lRem (by omega) (by omega) (by omega)]
        refine ih (x % y) y _ _ _ _ _ _ (by omega) hy2 (by omega) ?_
        rw [gcd_step]; exact hg
  exact gX7_tell_0 (loop b b a _ _ _ _ _ _ (Nat.le_refl _) ha hb rfl)
def chnN (w p : Nat) : Nat := if w = 2 then 12 - p else if w = 1 then p else 0
theorem chn_le {w p : Nat} (hp : p ≤ 12) : chnN w p ≤ 12 := by unfold chnN; repeat (first | omega | split)
theorem c_curseChance {w p : Nat} (hw : w < 3) (hp : p ≤ 12) (K : Q (some (.int (nI (chnN w p)))) m) : pm_G d mX6_curseChance 0 [some (.int (nI w)), some (.int (nI p))] [] m Q := by
  have e2 : (nI w = 2) ↔ w = 2 := ni_eq (b := 2) (by omega) (by omega)
  have e1 : (nI w = 1) ↔ w = 1 := ni_eq (b := 1) (by omega) (by omega)
  refine gX6_curseChance_0 ?_ ?_ ?_ <;> simp only [e1, e2]
  · intro z1 z2; simp only [chnN, if_neg z1, if_neg z2] at K; exact K
  · intro z1 z2; simp only [chnN, if_neg z1, if_pos z2] at K; exact K
  · intro z1; simp only [chnN, if_pos z1] at K
    rw [show (12 : Int32) = nI 12 from rfl, nI_sub hp]; exact K
def o_odds (S : Sg) (x y : Int32) : Int32 × Sg := match idx (sL S).1 x with
  | none => (-1, S)
  | some h => match idx 13 y with
    | none => (-1, S)
    | some p => (1, tellQ S (chnN (wordC (sL S) (sS S) h) p) 12)
theorem C_odds {x y : Int32} (h : RC S m) (K : okC (o_odds S x y) m Q) : pm_G (d + 5) mX6_odds 0 [some (.ref 0), some (.int x), some (.int y)] [] m Q := by
  have hL := h.2.2.1
  refine gX6_odds_0 (c_isHill hL (fun r hi hr hx => ?_) (fun hi => ?_))
  · simp only [o_odds, hi] at K
    refine gX6_odds_5 (fun z => absurd z (by decide)) (fun _ => c_isChance (fun p hi2 hp hy => ?_) (fun hi2 => ?_))
    · simp only [hi2] at K
      rw [hx, hy]
      have w3 : wordC (sL S) (sS S) r < 3 := wordI_lt _
      have cl := chn_le (w := wordC (sL S) (sS S) r) (p := p) (by omega)
      refine gX6_odds_12 (fun _ => c_wordFrom rfl hL h.2.2.2.1.1 hr (gX6_odds_26 (c_curseChance w3 (by omega) (gX6_odds_30 ?_)))) (fun z => absurd z (by decide))
      rw [nI_l (by omega)]
      exact c_tellParts (b := 12) h (by omega) (by omega) (by omega) (fun m' a b => gX6_odds_37 (K m' a b))
    · simp only [hi2] at K
      exact gX6_odds_12 (fun z => absurd rfl z) (fun _ => K m h (ag_refl _ _))
  · simp only [o_odds, hi] at K
    exact gX6_odds_5 (fun _ => K m h (ag_refl _ _)) (fun z => absurd rfl z)
theorem R_odds {x y : Int32} {l3 : Option Value} (h : RR S m) (K : okR (o_odds S x y) m Q) : pm_G (d + 5) mX7_odds 0 [some (.ref 65), some (.int x), some (.int y), l3] [] m Q := by
  have hL := h.2.2.1
  refine gX7_odds_0 (c7_isHill hL (fun r hi hr hx => ?_) (fun hi => ?_))
  · simp only [o_odds, hi] at K
    refine gX7_odds_5 (fun z => absurd z (by decide)) (fun _ => c7_in0 (n := 13) (by omega) (t64 y) rfl rfl (fun p hi2 hp hy => ?_) (fun hi2 => ?_))
    · simp only [hi2] at K
      rw [hx, hy]
      have w3 : wordC (sL S) (sS S) r < 3 := wordI_lt _
      refine gX7_odds_17 (fun _ => c7_asideS h (fun m' h' hG hA hb => gX7_odds_26 (c7_wordFromS hA hr ?_))) (fun z => absurd z (by decide))
      have e0 : (nI (wordC (sL S) (sS S) r) = 0) ↔ wordC (sL S) (sS S) r = 0 := ni_eq (b := 0) (by omega) (by omega)
      have e1 : (nI (wordC (sL S) (sS S) r) = 1) ↔ wordC (sL S) (sS S) r = 1 := ni_eq (b := 1) (by omega) (by omega)
      have T : ∀ (c : Nat) (l3 : Option Value), chnN (wordC (sL S) (sS S) r) p = c → c ≤ 12 → pm_G (d + 4) mX7_tell 0 [some (.ref 65), some (.long (lN c)), none, some (.long (lN 12)), none, none, none, none, none, none, none] [] m' (fun q m2 => pm_G (d + 5) mX7_odds 66 [some (.ref 65), some (.int (nI r)), some (.int (nI p)), some (.int (nI (wordC (sL S) (sS S) r)))] (pm_psh q []) m2 Q) := by
        intro c l3 hc hc2
        rw [hc] at K
        exact c7_tell (b := 12) h' (by omega) (by omega) (by omega) (fun m2 a b => gX7_odds_66 (K m2 a (ag_trans hb b)))
      refine gX7_odds_35 ?_ ?_ ?_ <;> simp only [e0, e1]
      · intro z0 z1
        rw [show (12 : Int32) = nI 12 from rfl, nI_sub (by omega), nI_l (by omega)]
        exact T (12 - p) l3 (by unfold chnN; rw [if_pos (by omega)]) (by omega)
      · intro z0 z1
        rw [nI_l (by omega)]
        exact T p l3 (by unfold chnN; rw [if_neg (by omega), if_pos z1]) (by omega)
      · intro z0
        exact T 0 l3 (by unfold chnN; rw [if_neg (by omega), if_neg (by omega)]) (by omega)
    · simp only [hi2] at K
      exact gX7_odds_17 (fun z => absurd rfl z) (fun _ => K m h (ag_refl _ _))
  · simp only [o_odds, hi] at K
    exact gX7_odds_5 (fun _ => K m h (ag_refl _ _)) (fun z => absurd rfl z)
end ODDS

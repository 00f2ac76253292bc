/-! the fewest hills -/
def fewU (P : Nat → Bool) : Nat → Nat
  | 0 => 63
  | k + 1 => if cnt k < cnt (fewU P k) ∧ P k = true then k else fewU P k
def isBest (P : Nat → Bool) (N t : Nat) : Prop := t < N ∧ P t = true ∧ ∀ u, u < N → P u = true → cnt t < cnt u ∨ (cnt t = cnt u ∧ t ≤ u)
theorem best_eq {P : Nat → Bool} {N t u : Nat} (h : isBest P N t) (g : isBest P N u) : t = u := by
  have h1 := h.2.2 u g.1 g.2.1
  have g1 := g.2.2 t h.1 h.2.1
  omega
theorem fewU_inv (P : Nat → Bool) : ∀ k, (∀ u, u < k → P u = true → cnt (fewU P k) < cnt u ∨ (cnt (fewU P k) = cnt u ∧ (fewU P k ≤ u ∨ fewU P k = 63))) ∧ (fewU P k = 63 ∨ (fewU P k < k ∧ P (fewU P k) = true))
  | 0 => ⟨fun u hu => absurd hu (by omega), Or.inl rfl⟩
  | k + 1 => by
    obtain ⟨i1, i2⟩ := fewU_inv P k
    simp only [fewU]
    by_cases c : cnt k < cnt (fewU P k) ∧ P k = true
    · rw [if_pos c]
      refine ⟨fun u hu hp => ?_, Or.inr ⟨by omega, c.2⟩⟩
      by_cases e : u = k
      · subst e; exact Or.inr ⟨rfl, Or.inl (Nat.le_refl _)⟩
      · have := i1 u (by omega) hp
        omega
    · rw [if_neg c]
      refine ⟨fun u hu hp => ?_, ?_⟩
      · by_cases e : u = k
        · subst e
          have : ¬ cnt u < cnt (fewU P u) := fun z => c ⟨z, hp⟩
          rcases i2 with z | z
          · rw [z] at this ⊢; omega
          · have := z.1; omega
        · exact i1 u (by omega) hp
      · rcases i2 with z | z
        · exact Or.inl z
        · exact Or.inr ⟨by omega, z.2⟩
theorem cnt63 : ∀ u, u < 64 → cnt u ≤ 6 ∧ (cnt u = 6 → u = 63) := by decide +kernel
theorem cntA : ∀ n, n < 7 → cnt (2 ^ n - 1) = n := by decide +kernel
theorem andA : ∀ n, n < 7 → ∀ u, u < 64 → u < 2 ^ n → u &&& (2 ^ n - 1) = u := by decide +kernel
theorem fewU_best {P : Nat → Bool} {n : Nat} (hn : n ≤ 6) (hA : P (2 ^ n - 1) = true) : isBest P (2 ^ n) (fewU P (2 ^ n) &&& (2 ^ n - 1)) := by
  obtain ⟨i1, i2⟩ := fewU_inv P (2 ^ n)
  have p1 : 1 ≤ 2 ^ n := Nat.one_le_two_pow
  have p6 : 2 ^ n ≤ 2 ^ 6 := Nat.pow_le_pow_right (by omega) hn
  have c1 := cntA n (by omega)
  have key : fewU P (2 ^ n) < 2 ^ n ∧ P (fewU P (2 ^ n)) = true := by
    rcases i2 with z | z
    · by_cases e : n = 6
      · subst e
        rw [z]; exact ⟨by omega, hA⟩
      · have := i1 (2 ^ n - 1) (by omega) hA
        rw [z, c1, show cnt 63 = 6 from rfl] at this
        omega
    · exact z
  rw [andA n (by omega) _ (by omega) key.1]
  refine ⟨key.1, key.2, fun u hu hp => ?_⟩
  have := i1 u hu hp
  rcases this with z | ⟨z1, z2 | z2⟩
  · exact Or.inl z
  · exact Or.inr ⟨z1, z2⟩
  · rw [z2, show cnt 63 = 6 from rfl] at z1
    have := (cnt63 u (by omega)).2 z1.symm
    rw [z2, this]
    exact Or.inr ⟨rfl, Nat.le_refl _⟩
def fullP (S : Sg) (t : Nat) : Bool := decide (anyS (sL S) (sS S) t (sL S).1 = anyS (sL S) (sS S) (2 ^ (sL S).1 - 1) (sL S).1)
def fewS (S : Sg) : Nat := fewU (fullP S) (2 ^ (sL S).1) &&& (2 ^ (sL S).1 - 1)
theorem few_best (S : Sg) (hn : (sL S).1 ≤ 6) : isBest (fullP S) (2 ^ (sL S).1) (fewS S) := fewU_best hn (by simp [fullP])
def o_fewest (S : Sg) : Int32 × Sg := if (sL S).1 = 0 then (-4, S) else (nI (cnt (fewS S)), tell S (nI (fewS S)))
section FEW
variable {d : Nat} {m : pmMem} {Q : Option Value → pmMem → Prop} {S : Sg}
theorem C_fewest {l1 l2 l3 : Option Value} (h : RC S m) (K : okC (o_fewest S) m Q) : pm_G (d + 5) mX6_fewest 0 [some (.ref 0), l1, l2, l3] [] m Q := by
  have hL := h.2.2.1
  have hC := h.2.2.2.1.1
  have hL6 := hL.2.1
  unfold o_fewest at K
  have p1 : 1 ≤ 2 ^ (sL S).1 := Nat.one_le_two_pow
  have p6 : 2 ^ (sL S).1 ≤ 2 ^ 6 := Nat.pow_le_pow_right (by omega) hL6
  refine gX6_fewest_0 (c_hasNoHills hL (fun hz => ?_) (fun hz => ?_))
  · rw [if_pos hz] at K
    exact gX6_fewest_4 (fun z => absurd z (by decide)) (fun _ => K m h (ag_refl _ _))
  · rw [if_neg hz] at K
    have loop : ∀ (k b : Nat), k ≤ 2 ^ (sL S).1 → b < 2 ^ (sL S).1 → fullP S b = true → (∀ u, k ≤ u → u < 2 ^ (sL S).1 → fullP S u = true → cnt b < cnt u ∨ (cnt b = cnt u ∧ b ≤ u)) → pm_G (d + 5) mX6_fewest 32 [some (.ref 0), some (.int (nI (anyS (sL S) (sS S) (2 ^ (sL S).1 - 1) (sL S).1))), some (.int (nI b)), some (.int (nI k - 1))] [] m Q := by
      intro k
      induction k with
      | zero =>
        intro b _ hb hp hi
        have e : b = fewS S := best_eq ⟨hb, hp, fun u hu => hi u (by omega) hu⟩ (few_best S hL6)
        refine gX6_fewest_32 (fun _ m1 e1 => c_bitCount (by omega) (gX6_fewest_76 ?_)) (fun z => absurd (by decide) z)
        rw [e1, e]
        exact K _ (RC_tell h) (ag_F (ag_refl _ _) (by omega))
      | succ k ih =>
        intro b hk hb hp hi
        rw [nI_pred]
        refine gX6_fewest_32 (fun z => absurd z (nI_pos (by omega))) (fun _ => c_bitCount (by omega) (gX6_fewest_40 (c_bitCount (by omega) ?_)))
        have ec : (nI (cnt b) < nI (cnt k)) ↔ cnt b < cnt k := ni_lt (by have := cnt_le b; omega) (by have := cnt_le k; omega)
        refine gX6_fewest_44 ?_ ?_ <;> simp only [ec]
        · intro z
          rw [show nI k + (-1) = nI k - 1 from by rw [Int32.sub_eq_add_neg]]
          refine ih b (by omega) hb hp (fun u h1 h2 h3 => ?_)
          by_cases e : u = k
          · subst e; exact Or.inl z
          · exact hi u (by omega) h2 h3
        · intro z
          refine c_seenFromAny rfl hL hC (by omega) ?_
          have l1 := anyS_lt (sL S) (sS S) k (sL S).1
          have l2 := anyS_lt (sL S) (sS S) (2 ^ (sL S).1 - 1) (sL S).1
          refine gX6_fewest_55 (fun w => ?_) (fun w => ?_) <;> rw [show nI k + (-1) = nI k - 1 from by rw [Int32.sub_eq_add_neg]]
          · rw [ni_eq (by omega) (by omega)] at w
            refine ih b (by omega) hb hp (fun u h1 h2 h3 => ?_)
            by_cases e : u = k
            · subst e
              exact absurd (of_decide_eq_true h3) w
            · exact hi u (by omega) h2 h3
          · rw [ni_eq (by omega) (by omega)] at w
            refine ih k (by omega) (by omega) (decide_eq_true w) (fun u h1 h2 h3 => ?_)
            by_cases e : u = k
            · subst e; exact Or.inr ⟨rfl, Nat.le_refl _⟩
            · have := hi u (by omega) h2 h3
              omega
    refine gX6_fewest_4 (fun _ => c_allHills hL (gX6_fewest_18 (c_seenFromAny rfl hL hC (by omega) (gX6_fewest_21 (c_allHills hL (gX6_fewest_26 (c_allHills hL (gX6_fewest_31 ?_)))))))) (fun z => absurd rfl z)
    have := loop (2 ^ (sL S).1) (2 ^ (sL S).1 - 1) (Nat.le_refl _) (by omega) (by simp [fullP]) (fun u h1 h2 => absurd h2 (by omega))
    rw [show nI (2 ^ (sL S).1) - 1 = nI (2 ^ (sL S).1 - 1) from nI_sub (b := 1) p1] at this
    exact this
theorem R_fewest {l1 l2 : Option Value} (h : RR S m) (K : okR (o_fewest S) m Q) : pm_G (d + 5) mX7_fewest 0 [some (.ref 65), l1, l2] [] m Q := by
  have hL := h.2.2.1
  have hL6 := hL.2.1
  have e0 : (m.1 65 4 = 0) ↔ (sL S).1 = 0 := by rw [hL.1]; exact ni_eq (b := 0) (by omega) (by omega)
  have p1 : 1 ≤ 2 ^ (sL S).1 := Nat.one_le_two_pow
  have p6 : 2 ^ (sL S).1 ≤ 2 ^ 6 := Nat.pow_le_pow_right (by omega) hL6
  unfold o_fewest at K
  refine gX7_fewest_0 ?_ ?_ <;> simp only [e0]
  · intro hz
    rw [if_neg hz] at K
    refine c7_asideS h (fun m' h' hG hA hb => gX7_fewest_14 ?_)
    have f4 : m'.1 65 4 = nI (sL S).1 := h'.2.2.1.1
    have lt63 : ∀ k, k ≤ 64 → fewU (fullP S) k < 64 := by
      intro k hk
      rcases (fewU_inv (fullP S) k).2 with z | z
      · omega
      · omega
    have loop : ∀ (t k : Nat), k + t = 2 ^ (sL S).1 → pm_G (d + 5) mX7_fewest 19 [some (.ref 65), some (.int (nI (fewU (fullP S) k))), some (.int (nI k))] [] m' Q := by
      intro t
      induction t with
      | zero =>
        intro k hk
        have hk : k = 2 ^ (sL S).1 := by omega
        subst hk
        refine gX7_fewest_19 ?_ ?_ <;> rw [f4, ni_shl _ (by omega)]
        · intro _ v1 ev m1 e1
          rw [show nI (2 ^ (sL S).1) - 1 = nI (2 ^ (sL S).1 - 1) from nI_sub (b := 1) p1, ni_and] at ev
          rw [ev]
          have b6 := (few_best S hL6).1
          refine c7_ones (t := fewS S) (by omega) (gX7_fewest_86 ?_)
          rw [e1, ev]
          exact K _ (RR_tell h') (ag_trans hb (ag_F (ag_refl _ _) (by omega)))
        · intro z; exact absurd (Int32.le_refl _) z
      | succ t ih =>
        intro k hk
        have nx := ih (k + 1) (by omega)
        have lf := lt63 k (by omega)
        have le : (nI (2 ^ (sL S).1) ≤ nI k) ↔ 2 ^ (sL S).1 ≤ k := ni_le (by omega) (by omega)
        refine gX7_fewest_19 ?_ ?_ <;> rw [f4, ni_shl _ (by omega), le]
        · intro z; omega
        · intro _
          refine c7_ones (by omega) (gX7_fewest_33 (c7_ones (by omega) ?_))
          have ec : (nI (cnt (fewU (fullP S) k)) ≤ nI (cnt k)) ↔ cnt (fewU (fullP S) k) ≤ cnt k := ni_le (by have := cnt_le (fewU (fullP S) k); omega) (by have := cnt_le k; omega)
          simp only [fewU] at nx
          refine gX7_fewest_37 ?_ ?_ <;> simp only [ec]
          · intro z
            rw [if_neg (fun w => by have := w.1; omega)] at nx
            rw [nI_1]; exact nx
          · intro z
            refine c7_seenFromAny hA (by omega) (gX7_fewest_45 (c7_seenFromAny (t := 63) hA (by omega) ?_))
            have l1 := anyS_lt (sL S) (sS S) k (sL S).1
            have l2 := anyS_lt (sL S) (sS S) (2 ^ (sL S).1 - 1) (sL S).1
            rw [anyS_all (bit63 _ hL6)]
            refine gX7_fewest_51 (fun w => ?_) (fun w => ?_) <;> rw [ni_eq (by omega) (by omega)] at w
            · rw [if_neg (fun v => w (of_decide_eq_true v.2))] at nx
              rw [nI_1]; exact nx
            · rw [if_pos ⟨by omega, decide_eq_true w⟩] at nx
              rw [nI_1]; exact nx
    exact loop (2 ^ (sL S).1) 0 (by omega)
  · intro hz
    rw [if_pos hz] at K
    exact K m h (ag_refl _ _)
end FEW

/-! memory: what a store leaves, what it brings -/
theorem pm_rF (m : pmMem) (c k : Nat) (v : Int32) (c' k' : Nat) : (pm_setF m c k v).1 c' k' = if c' = c ∧ k' = k then v else m.1 c' k' := by
  by_cases h : c' = c
  · subst h
    by_cases h2 : k' = k <;> simp [pm_setF, upd, h2]
  · simp [pm_setF, h]
theorem pm_rFA (m : pmMem) (c k : Nat) (v : Int32) : (pm_setF m c k v).2 = m.2 := rfl
theorem pm_rAF (m : pmMem) (c : Nat) (l : List Int32) : (pm_setA m c l).1 = m.1 := rfl
theorem pm_rA (m : pmMem) (c : Nat) (l : List Int32) (c' : Nat) : (pm_setA m c l).2.1 c' = if c' = c then l else m.2.1 c' := rfl
theorem pm_rAL (m : pmMem) (c : Nat) (l : List Int32) : (pm_setA m c l).2.2 = m.2.2 := rfl
theorem pm_rLF (m : pmMem) (c k : Nat) (v : Int64) : (pm_setL m c k v).1 = m.1 := rfl
theorem pm_rLA (m : pmMem) (c k : Nat) (v : Int64) : (pm_setL m c k v).2.1 = m.2.1 := rfl
theorem pm_rL (m : pmMem) (c k : Nat) (v : Int64) (c' k' : Nat) : (pm_setL m c k v).2.2 c' k' = if c' = c ∧ k' = k then v else m.2.2 c' k' := by
  by_cases h : c' = c
  · subst h
    by_cases h2 : k' = k <;> simp [pm_setL, vp_updL, h2]
  · simp [pm_setL, h]
/-- two memories agree outside S -/
def ag (S : Nat → Prop) (m m' : pmMem) : Prop := ∀ c, ¬ S c → m'.1 c = m.1 c ∧ m'.2.1 c = m.2.1 c ∧ m'.2.2 c = m.2.2 c
theorem ag_refl (S : Nat → Prop) (m : pmMem) : ag S m m := fun _ _ => ⟨rfl, rfl, rfl⟩
theorem ag_trans {S : Nat → Prop} {m m1 m2 : pmMem} (h1 : ag S m m1) (h2 : ag S m1 m2) : ag S m m2 := fun c hc =>
  ⟨(h2 c hc).1.trans (h1 c hc).1, (h2 c hc).2.1.trans (h1 c hc).2.1, (h2 c hc).2.2.trans (h1 c hc).2.2⟩
theorem ag_mono {S S' : Nat → Prop} {m m1 : pmMem} (hS : ∀ c, S c → S' c) (h1 : ag S m m1) : ag S' m m1 := fun c hc => h1 c (fun z => hc (hS c z))
theorem ag_F {S : Nat → Prop} {m m1 : pmMem} {c k : Nat} {v : Int32} (h : ag S m m1) (hc : S c) : ag S m (pm_setF m1 c k v) := fun c' hc' => by
  have hne : c' ≠ c := fun e => hc' (e ▸ hc)
  refine ⟨?_, (h c' hc').2.1, (h c' hc').2.2⟩
  show (if c' = c then _ else m1.1 c') = _
  rw [if_neg hne]
  exact (h c' hc').1
theorem ag_A {S : Nat → Prop} {m m1 : pmMem} {c : Nat} {l : List Int32} (h : ag S m m1) (hc : S c) : ag S m (pm_setA m1 c l) := fun c' hc' => by
  have hne : c' ≠ c := fun e => hc' (e ▸ hc)
  refine ⟨(h c' hc').1, ?_, (h c' hc').2.2⟩
  show (if c' = c then _ else m1.2.1 c') = _
  rw [if_neg hne]
  exact (h c' hc').2.1
theorem ag_L {S : Nat → Prop} {m m1 : pmMem} {c k : Nat} {v : Int64} (h : ag S m m1) (hc : S c) : ag S m (pm_setL m1 c k v) := fun c' hc' => by
  have hne : c' ≠ c := fun e => hc' (e ▸ hc)
  refine ⟨(h c' hc').1, (h c' hc').2.1, ?_⟩
  show (if c' = c then _ else m1.2.2 c') = _
  rw [if_neg hne]
  exact (h c' hc').2.2
/-! small numbers -/
theorem ni_in {i n : Nat} (h : i < n) (hn : n < 2147483648) : vp_in (nI i) n := vp_in_nI h hn
theorem ni_cl {i : Nat} (h : i < 2147483648) : (nI i).toNatClampNeg = i := nI_clamp h
theorem ni_le {a b : Nat} (ha : a < 2147483648) (hb : b < 2147483648) : nI a ≤ nI b ↔ a ≤ b := nI_leI ha hb
theorem ni_lt {a b : Nat} (ha : a < 2147483648) (hb : b < 2147483648) : nI a < nI b ↔ a < b := nI_ltI ha hb
theorem ni_eq {a b : Nat} (ha : a < 2147483648) (hb : b < 2147483648) : nI a = nI b ↔ a = b := nI_eq ha hb
theorem ni_or (a b : Nat) : nI a ||| nI b = nI (a ||| b) := by
  apply Int32.toBitVec_inj.1
  show BitVec.ofNat 32 a ||| BitVec.ofNat 32 b = BitVec.ofNat 32 (a ||| b)
  apply BitVec.eq_of_getLsbD_eq
  intro i hi
  simp [hi]
theorem ni_and (a b : Nat) : nI a &&& nI b = nI (a &&& b) := by
  apply Int32.toBitVec_inj.1
  show BitVec.ofNat 32 a &&& BitVec.ofNat 32 b = BitVec.ofNat 32 (a &&& b)
  apply BitVec.eq_of_getLsbD_eq
  intro i hi
  simp [hi]
theorem ni_xor (a b : Nat) : nI a ^^^ nI b = nI (a ^^^ b) := by
  apply Int32.toBitVec_inj.1
  show BitVec.ofNat 32 a ^^^ BitVec.ofNat 32 b = BitVec.ofNat 32 (a ^^^ b)
  apply BitVec.eq_of_getLsbD_eq
  intro i hi
  simp [hi]
theorem ni_sm : ∀ i, i < 31 → ((nI i &&& 31).toBitVec.smod 32).toNat = i := by decide +kernel
theorem ni_shl : ∀ i, i < 31 → (1 : Int32) <<< (nI i &&& 31) = nI (2 ^ i) := by decide +kernel
theorem ni_shr {s i : Nat} (hs : s < 2147483648) (hi : i < 31) : nI s >>> (nI i &&& 31) = nI (s / 2 ^ i) := pk_shrN hs _ i (ni_sm i hi)
theorem ni_bit {s i : Nat} (hs : s < 2147483648) (hi : i < 31) : (nI s >>> (nI i &&& 31)) &&& 1 = nI (if s.testBit i then 1 else 0) := by
  rw [ni_shr hs hi, show (1 : Int32) = nI 1 from rfl, ni_and, Nat.and_one_is_mod]
  congr 1
  rw [Nat.testBit_eq_decide_div_mod_eq]
  rcases Nat.mod_two_eq_zero_or_one (s / 2 ^ i) with h | h <;> simp [h]
theorem ni_bit0 {s i : Nat} (hs : s < 2147483648) (hi : i < 31) : (nI s >>> (nI i &&& 31)) &&& 1 = 0 ↔ s.testBit i = false := by
  rw [ni_bit hs hi, show (0 : Int32) = nI 0 from rfl]
  cases s.testBit i <;> simp [nI_eq]
/-- the set of the i below n with p i -/
def mkS (p : Nat → Bool) : Nat → Nat
  | 0 => 0
  | n + 1 => mkS p n + if p n then 2 ^ n else 0
theorem mkS_lt (p : Nat → Bool) : ∀ n, mkS p n < 2 ^ n
  | 0 => by simp [mkS]
  | n + 1 => by
    have h := mkS_lt p n
    have e : 2 ^ (n + 1) = 2 ^ n + 2 ^ n := by rw [Nat.pow_succ]; omega
    simp only [mkS]
    split <;> omega
theorem or_add {s i : Nat} (h : s < 2 ^ i) : s ||| 2 ^ i = s + 2 ^ i := by
  have e := Nat.two_pow_add_eq_or_of_lt h 1
  rw [Nat.mul_one] at e
  rw [Nat.or_comm, ← e, Nat.add_comm]
theorem mkS_bit (p : Nat → Bool) : ∀ n i, (mkS p n).testBit i = (decide (i < n) && p i)
  | 0, i => by simp [mkS]
  | n + 1, i => by
    have h := mkS_lt p n
    have ih := mkS_bit p n i
    simp only [mkS]
    by_cases hp : p n
    · rw [if_pos hp, ← or_add h, Nat.testBit_or, ih, Nat.testBit_two_pow]
      by_cases hi : n = i
      · subst hi; simp [hp]
      · by_cases h2 : i < n
        · have : i < n + 1 := by omega
          simp [hi, h2, this]
        · have : ¬ i < n + 1 := by omega
          simp [hi, h2, this]
    · rw [if_neg hp, Nat.add_zero, ih]
      by_cases hi : i = n
      · subst hi; simp [hp]
      · by_cases h2 : i < n
        · have : i < n + 1 := by omega
          simp [h2, this]
        · have : ¬ i < n + 1 := by omega
          simp [h2, this]
theorem mkS_flat {p : Nat → Bool} {a : Nat} : ∀ b, a ≤ b → (∀ j, a ≤ j → j < b → p j = false) → mkS p b = mkS p a
  | 0, h, _ => by rw [Nat.le_zero.mp h]
  | b + 1, h, hp => by
    by_cases e : a = b + 1
    · rw [e]
    · simp only [mkS]
      rw [mkS_flat b (by omega) (fun j h1 h2 => hp j h1 (by omega)), hp b (by omega) (by omega)]
      simp
theorem mkS_congr {p q : Nat → Bool} : ∀ n, (∀ j, j < n → p j = q j) → mkS p n = mkS q n
  | 0, _ => rfl
  | n + 1, h => by
    simp only [mkS]
    rw [mkS_congr n (fun j hj => h j (by omega)), h n (by omega)]
theorem mkS_self {s n : Nat} (h : s < 2 ^ n) : mkS (fun i => s.testBit i) n = s := by
  apply Nat.eq_of_testBit_eq
  intro i
  rw [mkS_bit]
  by_cases hi : i < n
  · simp [hi]
  · have h2 : s.testBit i = false := Nat.testBit_lt_two_pow (Nat.lt_of_lt_of_le h (Nat.pow_le_pow_right (by decide) (Nat.le_of_not_lt hi)))
    simp [h2]

/-! how many of each -/
def countF (S : Sg) (k : Nat) : Int32 := if k = 0 then nI (sL S).1 else if k = 1 then nI (sS S).2.1 else if k = 2 then nI (sD S).length else if k = 3 then (sS S).2.2.1 else if k = 4 then nI (sS S).2.2.2.1 else if k = 5 then nI (sS S).2.2.2.2 else if k = 6 then nI (cntB (fun h => isBa ((sL S).2 h).1) (sL S).1) else if k = 7 then nI (cntB (fun h => isWo ((sL S).2 h).1) (sL S).1) else if k = 8 then nI (cntB (fun r => (sR S r).isSome) 6) else if k = 9 then nI (cntB (fun r => (sT S r).isSome) 4) else nI (cntB (fun r => (sK S r).isSome) 3)
def o_count (S : Sg) (x : Int32) : Int32 := match idx 11 x with
  | none => -1
  | some k => countF S k
theorem cntB_t {p : Nat → Bool} {n : Nat} (h : p n = true) : cntB p (n + 1) = cntB p n + 1 := by simp only [cntB, h, if_true]
theorem cntB_f {p : Nat → Bool} {n : Nat} (h : p n = false) : cntB p (n + 1) = cntB p n := by simp [cntB, h]
section COUNT
variable {d : Nat} {m : pmMem} {Q : Option Value → pmMem → Prop} {S : Sg} {L : Ld} {s : Cs}
theorem c_howManyOf {o : Nat} {l2 l3 : Option Value} (ho : o < 6) (hL : landM L m) (K : Q (some (.int (nI (cntB (fun h => okd (L.2 h).1 o) L.1)))) m) : pm_G (d + 1) mX2_howManyOf 0 [some (.ref 8), some (.int (nI o)), l2, l3] [] m Q := by
  have h6 := hL.2.1
  have loop : ∀ (k i : Nat), i + k = L.1 → pm_G (d + 1) mX2_howManyOf 4 [some (.ref 8), some (.int (nI o)), some (.int (nI (cntB (fun h => okd (L.2 h).1 o) i))), some (.int (nI i))] [] m Q := by
    intro k
    induction k with
    | zero =>
      intro i hi
      have hin : i = L.1 := by omega
      subst hin
      have le : m.1 8 1 ≤ nI L.1 := by rw [hL.1]; exact Int32.le_refl _
      exact gX2_howManyOf_4 (fun z => absurd le z) (fun _ => K) (fun z => absurd le z)
    | succ k ih =>
      intro i hi
      have n1 : ¬ m.1 8 1 ≤ nI i := by
        rw [hL.1]
        intro z
        have := (ni_le (by omega) (by omega)).mp z
        omega
      have nx := ih (i + 1) (by omega)
      obtain ⟨g0, g1, g2, g3, g4, g5, g6⟩ := hL.2.2 i (by omega)
      refine gX2_howManyOf_4 (fun _ => ni_in (n := 6) (by omega) (by omega)) (fun z => absurd z n1) (fun _ => ?_)
      rw [ra_hill (by omega), g0]
      refine c_isOfKind g3 ho ?_
      cases hb : okd (L.2 i).1 o with
      | true =>
        rw [cntB_t (p := fun h => okd (L.2 h).1 o) (n := i) hb] at nx
        refine gX2_howManyOf_25 (fun z => absurd z (by decide)) (fun _ => ?_)
        rw [nI_1, nI_1]; exact nx
      | false =>
        rw [cntB_f (p := fun h => okd (L.2 h).1 o) (n := i) hb] at nx
        refine gX2_howManyOf_25 (fun _ => ?_) (fun z => absurd rfl z)
        rw [nI_1]; exact nx
  exact gX2_howManyOf_0 (loop L.1 0 (by omega))
theorem c_howManyThere {R : Nat → Option (List Int32)} {a0 n cap b : Nat} {l1 l2 : Option Value} (c : pm_kd a0 = 10) (hn : pm_rl a0 = n) (hn6 : n ≤ 6) (hcap : cap < 1000) (hr : ∀ r, r < n → pm_ra a0 r = b + 2 * r ∧ pm_kd (b + 2 * r) = 5 ∧ sheetM (R r) cap (b + 2 * r) m) (K : Q (some (.int (nI (cntB (fun r => (R r).isSome) n)))) m) : pm_G (d + 1) mX6_howManyThere 0 [some (.ref a0), l1, l2] [] m Q := by
  have loop : ∀ (k i : Nat), i + k = n → pm_G (d + 1) mX6_howManyThere 4 [some (.ref a0), some (.int (nI (cntB (fun r => (R r).isSome) i))), some (.int (nI i))] [] m Q := by
    intro k
    induction k with
    | zero =>
      intro i hi
      have hin : i = n := by omega
      subst hin
      have le : Int32.ofNat (pm_rl a0) ≤ nI i := by rw [hn]; exact Int32.le_refl _
      exact gX6_howManyThere_4 c (fun z => absurd le z) (fun _ => K) (fun z => absurd le z)
    | succ k ih =>
      intro i hi
      have n1 : ¬ Int32.ofNat (pm_rl a0) ≤ nI i := by
        rw [hn]
        intro z
        have := (ni_le (a := n) (by omega) (by omega)).mp z
        omega
      have nx := ih (i + 1) (by omega)
      obtain ⟨r1, r2, r3⟩ := hr i (by omega)
      refine gX6_howManyThere_4 c (fun _ => by rw [hn]; exact ni_in (by omega) (by omega)) (fun z => absurd z n1) (fun _ => ?_)
      rw [ni_cl (by omega), r1]
      refine c_isMissing r2 r3 hcap (fun ho => ?_) (fun l ho => ?_)
      · rw [cntB_f (p := fun r => (R r).isSome) (n := i) (by show (R i).isSome = false; rw [ho]; rfl)] at nx
        refine gX6_howManyThere_16 (fun _ => ?_) (fun z => absurd z (by decide))
        rw [nI_1]; exact nx
      · rw [cntB_t (p := fun r => (R r).isSome) (n := i) (by show (R i).isSome = true; rw [ho]; rfl)] at nx
        refine gX6_howManyThere_16 (fun z => absurd rfl z) (fun _ => ?_)
        rw [nI_1, nI_1]; exact nx
  exact gX6_howManyThere_0 (loop n 0 (by omega))
theorem c_howManyKept {l1 l2 : Option Value} (h : RC S m) (K : Q (some (.int (nI (cntB (fun r => (sK S r).isSome) 3)))) m) : pm_G d mX6_howManyKept 0 [some (.ref 0), l1, l2] [] m Q := by
  have hK := h.2.2.2.2.1
  have loop : ∀ (k i : Nat), i + k = 3 → pm_G d mX6_howManyKept 4 [some (.ref 0), some (.int (nI (cntB (fun r => (sK S r).isSome) i))), some (.int (nI i))] [] m Q := by
    intro k
    induction k with
    | zero =>
      intro i hi
      have hin : i = 3 := by omega
      subst hin
      exact gX6_howManyKept_4 (fun z => absurd (by decide) z) (fun _ => K) (fun z => absurd (by decide) z) (fun z => absurd (by decide) z)
    | succ k ih =>
      intro i hi
      have n1 : ¬ (3 : Int32) ≤ nI i := by
        intro z
        have := (ni_le (a := 3) (by omega) (by omega)).mp z
        omega
      have nx := ih (i + 1) (by omega)
      have g := (hK.2 i (by omega)).2
      refine gX6_howManyKept_4 (fun _ => by rw [hK.1]; exact ni_in (by omega) (by omega)) (fun z => absurd z n1) ?_ ?_ <;> rw [ni_cl (by omega)]
      · intro _ hz
        cases ho : sK S i with
        | none => rw [cntB_f (p := fun r => (sK S r).isSome) (n := i) (by show (sK S i).isSome = false; rw [ho]; rfl)] at nx; rw [nI_1]; exact nx
        | some ds => rw [ho] at g; rw [g.1] at hz; exact absurd hz (by decide)
      · intro _ hz
        cases ho : sK S i with
        | none => rw [ho] at g; exact absurd g hz
        | some ds => rw [cntB_t (p := fun r => (sK S r).isSome) (n := i) (by show (sK S i).isSome = true; rw [ho]; rfl)] at nx; rw [nI_1, nI_1]; exact nx
  exact gX6_howManyKept_0 (loop 3 0 (by omega))
theorem C_count {x : Int32} (h : RC S m) (K : Q (some (.int (o_count S x))) m) : pm_G (d + 2) mX6_count 0 [some (.ref 0), some (.int x)] [] m Q := by
  have hL := h.2.2.1
  have hC := h.2.2.2.1
  have e0 : (x < 0) ↔ x.toInt < 0 := i32_neg
  have e11 : (x < 11) ↔ x.toInt < 11 := by rw [Int32.lt_iff_toInt_lt]; rfl
  refine gX6_count_0 ?_ ?_ ?_ <;> simp only [e0, e11]
  · intro z
    simp only [o_count, idx_none (n := 11) (x := x) (by omega)] at K
    exact K
  · intro a b
    obtain ⟨k, hi, hk, hn⟩ := idx_some (n := 11) (x := x) (by omega) (by omega) (by omega)
    simp only [o_count, hi] at K
    rw [hn]
    have ks : k = 0 ∨ k = 1 ∨ k = 2 ∨ k = 3 ∨ k = 4 ∨ k = 5 ∨ k = 6 ∨ k = 7 ∨ k = 8 ∨ k = 9 ∨ k = 10 := by omega
    rcases ks with e | e | e | e | e | e | e | e | e | e | e <;> subst e
    · refine gX6_count_13_0 ?_; rw [hL.1]; exact K
    · refine gX6_count_13_1 ?_; rw [hC.1.2.1]; exact K
    · refine gX6_count_13_2 ?_; rw [hC.2.2.2.1]; exact K
    · refine gX6_count_13_3 ?_; rw [hC.1.2.2.1]; exact K
    · refine gX6_count_13_4 ?_; rw [hC.1.2.2.2.1]; exact K
    · refine gX6_count_13_5 ?_; rw [hC.1.2.2.2.2.1]; exact K
    · refine gX6_count_13_6 (c_howManyOf (o := 1) (by omega) hL (gX6_count_124 ?_))
      simp only [okd_1]; exact K
    · refine gX6_count_13_7 (c_howManyOf (o := 2) (by omega) hL (gX6_count_133 ?_))
      simp only [okd_2]; exact K
    · refine gX6_count_13_8 (c_howManyThere (n := 6) (cap := 40) (b := 33) (R := sR S) rfl rfl (by omega) (by omega) (fun r hr => ⟨?_, kd_row hr, h.1 r hr⟩) (gX6_count_141 K))
      have := ra_row hr
      rw [ni_cl (by omega)] at this; exact this
    · refine gX6_count_13_9 (c_howManyThere (n := 4) (cap := 60) (b := 45) (R := sT S) rfl rfl (by omega) (by omega) (fun r hr => ⟨?_, kd_text hr, h.2.1 r hr⟩) (gX6_count_149 K))
      have := ra_text hr
      rw [ni_cl (by omega)] at this; exact this
    · exact gX6_count_13_d (by decide) (c_howManyKept h (gX6_count_154 K))
  · intro a z
    simp only [o_count, idx_none (n := 11) (x := x) (by omega)] at K
    exact K
theorem fate1 {s : Cs} (h : s.2.2.2.1 < 4096) : mkS (fun i => decide (fateC s i = 1)) 12 = s.2.2.2.1 := by
  refine Eq.trans (mkS_congr 12 (fun j hj => ?_)) (mkS_self (n := 12) h)
  unfold fateC
  cases hb : s.2.2.2.1.testBit j with
  | true => simp
  | false =>
    simp only [Bool.false_eq_true, if_false]
    split <;> simp
theorem c7_tentsThat {w : Nat} {l2 l3 : Option Value} (hw : w = 1 ∨ w = 2) (h : RR S m) (K : Q (some (.int (nI (if w = 1 then (sS S).2.2.2.1 else (sS S).2.2.2.2)))) m) : pm_G d mX7_tentsThat 0 [some (.ref 65), some (.int (nI w)), l2, l3] [] m Q := by
  have hL := h.2.2.1
  have hL6 := hL.2.1
  have hN := h.2.2.2.2.1
  have h10 := h.2.2.2.2.2.2.2.2.2
  have e0 : (m.1 65 4 ≤ 0) ↔ (sL S).1 ≤ 0 := by rw [hL.1]; exact ni_le (b := 0) (by omega) (by omega)
  have val : mkS (fun i => decide ((sL S).1 ≠ 0) && decide (fateC (sS S) i = w)) 12 = (if w = 1 then (sS S).2.2.2.1 else (sS S).2.2.2.2) := by
    by_cases z : (sL S).1 = 0
    · have e : sS S = (sP S, 0, 0, 0, 0) := by
        show replay (sL S) (sP S) (sD S) = _
        rw [(h10.2.2 z).1]; rfl
      rw [e]
      rw [mkS_flat (a := 0) 12 (by omega) (fun j _ _ => by simp [z])]
      show 0 = if w = 1 then 0 else 0
      split <;> rfl
    · rcases hw with e | e
      · rw [if_pos e, e, ← fate1 hN.2.2.2.2.2.2.1]
        exact mkS_congr 12 (fun j hj => by simp [z, fate1 hN.2.2.2.2.2.2.1])
      · rw [if_neg (by omega), e, ← dj_fate (dj_replay _ _ _) hN.2.2.2.2.2.2.2]
        exact mkS_congr 12 (fun j hj => by simp [z])
  have loop : ∀ (k i : Nat), i + k = 12 → pm_G d mX7_tentsThat 4 [some (.ref 65), some (.int (nI w)), some (.int (nI (mkS (fun i => decide ((sL S).1 ≠ 0) && decide (fateC (sS S) i = w)) i))), some (.int (nI i))] [] m Q := by
    intro k
    induction k with
    | zero =>
      intro i hi
      have hin : i = 12 := by omega
      subst hin
      rw [val]
      exact gX7_tentsThat_4 (fun z => absurd (by decide) z) (fun _ => K) (fun z => absurd (by decide) z) (fun z => absurd (by decide) z) (fun z => absurd (by decide) z)
    | succ k ih =>
      intro i hi
      have nx := ih (i + 1) (by omega)
      have lt := mkS_lt (fun i => decide ((sL S).1 ≠ 0) && decide (fateC (sS S) i = w)) i
      have ef : (m.2.1 78).getD i 0 = nI (fateC (sS S) i) := by rw [hN.2.1, lst_get (by omega)]
      have f3 := fate_le (sS S) i
      have efw : (nI (fateC (sS S) i) = nI w) ↔ fateC (sS S) i = w := ni_eq (by omega) (by omega)
      simp only [mkS] at nx
      refine gX7_tentsThat_4 (fun _ _ => by rw [hN.2.1, lst_len]; exact ni_in (by omega) (by omega)) (fun z => absurd z (n12 (by omega))) ?_ ?_ ?_ <;> simp only [e0] <;> try rw [ni_cl (by omega), ef]
      · intro _ z
        have z : (sL S).1 = 0 := by omega
        simp only [z, ne_eq, not_true, decide_false, Bool.false_and, Bool.false_eq_true, if_false, Nat.add_zero] at nx ⊢
        rw [nI_1]; simpa using nx
      · intro _ z
        rw [efw]
        intro zf
        simp only [zf, decide_false, Bool.and_false, Bool.false_eq_true, if_false, Nat.add_zero] at nx
        rw [nI_1]; simpa using nx
      · intro _ z
        rw [efw]
        intro zf
        have z : (sL S).1 ≠ 0 := by omega
        rw [nI_1, ni_shl i (by omega), ni_or, or_add lt]
        simp only [zf, decide_true, Bool.and_true, show decide ((sL S).1 ≠ 0) = true from decide_eq_true z, if_true] at nx ⊢
        exact nx
  exact gX7_tentsThat_0 (loop 12 0 (by omega))
end COUNT

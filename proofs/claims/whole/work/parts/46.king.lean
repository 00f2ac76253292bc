/-! by turns -/
def heldG (g : List Int32) (mk : Nat → Nat) (m : pmMem) : Prop := m.2.1 85 = g ∧ g.length = 12 ∧ m.2.1 86 = lst12 (fun i => nI (mk i)) ∧ ∀ i, mk i < 3
def heS (c : Nat) : Prop := c = 85 ∨ c = 86
section HOLD
variable {d : Nat} {m : pmMem} {Q : Option Value → pmMem → Prop} {g : List Int32} {mk : Nat → Nat}
theorem c7_hold {l1 : Option Value} (hn : m.2.1 79 = g) (hgl : g.length = 12) (hm : m.2.1 80 = lst12 (fun i => nI (mk i))) (hmk : ∀ i, mk i < 3) (h85 : (m.2.1 85).length = 12) (h86 : (m.2.1 86).length = 12) (K : ∀ m', heldG g mk m' → agA heS m m' → Q none m') : pm_G d mX7_hold 0 [some (.ref 65), l1] [] m Q := by
  have loop : ∀ (n i : Nat) (m1 : pmMem), i + n = 12 → agA heS m m1 → m1.2.1 85 = lst12 (fun j => if j < i then g.getD j 0 else (m.2.1 85).getD j 0) → m1.2.1 86 = lst12 (fun j => if j < i then nI (mk j) else (m.2.1 86).getD j 0) → pm_G d mX7_hold 2 [some (.ref 65), some (.int (nI i))] [] m1 Q := by
    intro n
    induction n with
    | zero =>
      intro i m1 hi hag h1 h2
      have h12 : i = 12 := by omega
      subst h12
      have hk : heldG g mk m1 := ⟨by rw [h1, lst_of hgl]; exact lst_congr (fun j hj => by rw [if_pos hj, lst_get hj]), hgl, by rw [h2]; exact lst_congr (fun j hj => by rw [if_pos hj]), hmk⟩
      exact gX7_hold_2 (fun h => absurd (by decide) h) (fun h => absurd (by decide) h) (fun h => absurd (by decide) h) (fun h => absurd (by decide) h) (fun _ => K m1 hk hag) (fun h => absurd (by decide) h)
    | succ n ih =>
      intro i m1 hi hag h1 h2
      have hi12 : i < 12 := by omega
      have hcl := ni_cl (i := i) (by omega)
      have e79 : m1.2.1 79 = g := by rw [hag.2.2 79 (by unfold heS; omega)]; exact hn
      have e80 : m1.2.1 80 = lst12 (fun i => nI (mk i)) := by rw [hag.2.2 80 (by unfold heS; omega)]; exact hm
      refine gX7_hold_2 (fun _ => ?_) (fun _ m2 e2 => ?_) (fun _ m2 e2 => ?_) (fun _ => ?_) (fun h => absurd h (n12 hi12)) (fun _ m2 e2 m3 e3 => ?_)
      · rw [h1, lst_len]; exact ni_in hi12 (by omega)
      · rw [e2, pm_rA, if_neg (by omega), h2, lst_len]; exact ni_in hi12 (by omega)
      · rw [e2, pm_rA, if_neg (by omega), e80, lst_len]; exact ni_in hi12 (by omega)
      · rw [e79, hgl]; exact ni_in hi12 (by omega)
      · rw [nI_1]
        have f80 : m2.2.1 80 = lst12 (fun i => nI (mk i)) := by rw [e2, pm_rA, if_neg (by omega)]; exact e80
        have f86 : m2.2.1 86 = m1.2.1 86 := by rw [e2, pm_rA, if_neg (by omega)]
        refine ih (i + 1) m3 (by omega) ?_ ?_ ?_
        · rw [e3, e2]; exact agA_A (agA_A hag (Or.inl rfl)) (Or.inr rfl)
        · rw [e3, pm_rA, if_neg (by omega), e2, pm_rA, if_pos rfl, hcl, e79, h1, lst_set hi12]
          refine lst_congr (fun j hj => ?_)
          by_cases e : j = i
          · rw [if_pos e, e, if_pos (by omega)]
          · rw [if_neg e]
            by_cases h : j < i
            · rw [if_pos h, if_pos (by omega)]
            · rw [if_neg h, if_neg (by omega)]
        · rw [e3, pm_rA, if_pos rfl, hcl, f80, f86, h2, lst_get hi12, lst_set hi12]
          refine lst_congr (fun j hj => ?_)
          by_cases e : j = i
          · rw [if_pos e, e, if_pos (by omega)]
          · rw [if_neg e]
            by_cases h : j < i
            · rw [if_pos h, if_pos (by omega)]
            · rw [if_neg h, if_neg (by omega)]
  refine gX7_hold_0 (loop 12 0 m rfl (agA_refl _ _) ?_ ?_)
  · rw [lst_of h85]; exact lst_congr (fun j hj => by rw [if_neg (by omega), lst_get hj])
  · rw [lst_of h86]; exact lst_congr (fun j hj => by rw [if_neg (by omega), lst_get hj])
theorem c7_held {l1 : Option Value} (hn : m.2.1 85 = g) (hgl : g.length = 12) (hm : m.2.1 86 = lst12 (fun i => nI (mk i))) (hmk : ∀ i, mk i < 3) (h79 : (m.2.1 79).length = 12) (h80 : (m.2.1 80).length = 12) (K : ∀ m', asideG g mk m' → agA scrR m m' → Q none m') : pm_G d mX7_held 0 [some (.ref 65), l1] [] m Q := by
  have loop : ∀ (n i : Nat) (m1 : pmMem), i + n = 12 → agA scrR m m1 → m1.2.1 79 = lst12 (fun j => if j < i then g.getD j 0 else (m.2.1 79).getD j 0) → m1.2.1 80 = lst12 (fun j => if j < i then nI (mk j) else (m.2.1 80).getD j 0) → pm_G d mX7_held 2 [some (.ref 65), some (.int (nI i))] [] m1 Q := by
    intro n
    induction n with
    | zero =>
      intro i m1 hi hag h1 h2
      have h12 : i = 12 := by omega
      subst h12
      have hk : asideG g mk m1 := ⟨by rw [h1, lst_of hgl]; exact lst_congr (fun j hj => by rw [if_pos hj, lst_get hj]), hgl, by rw [h2]; exact lst_congr (fun j hj => by rw [if_pos hj]), hmk⟩
      exact gX7_held_2 (fun h => absurd (by decide) h) (fun h => absurd (by decide) h) (fun h => absurd (by decide) h) (fun h => absurd (by decide) h) (fun _ => K m1 hk hag) (fun h => absurd (by decide) h)
    | succ n ih =>
      intro i m1 hi hag h1 h2
      have hi12 : i < 12 := by omega
      have hcl := ni_cl (i := i) (by omega)
      have e85 : m1.2.1 85 = g := by rw [hag.2.2 85 (by unfold scrR; omega)]; exact hn
      have e86 : m1.2.1 86 = lst12 (fun i => nI (mk i)) := by rw [hag.2.2 86 (by unfold scrR; omega)]; exact hm
      refine gX7_held_2 (fun _ => ?_) (fun _ m2 e2 => ?_) (fun _ m2 e2 => ?_) (fun _ => ?_) (fun h => absurd h (n12 hi12)) (fun _ m2 e2 m3 e3 => ?_)
      · rw [h1, lst_len]; exact ni_in hi12 (by omega)
      · rw [e2, pm_rA, if_neg (by omega), h2, lst_len]; exact ni_in hi12 (by omega)
      · rw [e2, pm_rA, if_neg (by omega), e86, lst_len]; exact ni_in hi12 (by omega)
      · rw [e85, hgl]; exact ni_in hi12 (by omega)
      · rw [nI_1]
        have f86 : m2.2.1 86 = lst12 (fun i => nI (mk i)) := by rw [e2, pm_rA, if_neg (by omega)]; exact e86
        have f80 : m2.2.1 80 = m1.2.1 80 := by rw [e2, pm_rA, if_neg (by omega)]
        refine ih (i + 1) m3 (by omega) ?_ ?_ ?_
        · rw [e3, e2]; exact agA_A (agA_A hag (Or.inl rfl)) (Or.inr rfl)
        · rw [e3, pm_rA, if_neg (by omega), e2, pm_rA, if_pos rfl, hcl, e85, h1, lst_set hi12]
          refine lst_congr (fun j hj => ?_)
          by_cases e : j = i
          · rw [if_pos e, e, if_pos (by omega)]
          · rw [if_neg e]
            by_cases h : j < i
            · rw [if_pos h, if_pos (by omega)]
            · rw [if_neg h, if_neg (by omega)]
        · rw [e3, pm_rA, if_pos rfl, hcl, f86, f80, h2, lst_get hi12, lst_set hi12]
          refine lst_congr (fun j hj => ?_)
          by_cases e : j = i
          · rw [if_pos e, e, if_pos (by omega)]
          · rw [if_neg e]
            by_cases h : j < i
            · rw [if_pos h, if_pos (by omega)]
            · rw [if_neg h, if_neg (by omega)]
  refine gX7_held_0 (loop 12 0 m rfl (agA_refl _ _) ?_ ?_)
  · rw [lst_of h79]; exact lst_congr (fun j hj => by rw [if_neg (by omega), lst_get hj])
  · rw [lst_of h80]; exact lst_congr (fun j hj => by rw [if_neg (by omega), lst_get hj])
end HOLD
def maxN (f : Nat → Nat) : Nat → Nat
  | 0 => 0
  | n + 1 => max (maxN f n) (f n)
def minN (f : Nat → Nat) : Nat → Nat
  | 0 => 13
  | n + 1 => min (minN f n) (f n)
theorem maxN_le {f : Nat → Nat} {b : Nat} (h : ∀ i, f i ≤ b) : ∀ n, maxN f n ≤ b
  | 0 => by simp [maxN]
  | n + 1 => by have := maxN_le h n; have := h n; simp only [maxN]; omega
theorem minN_le (f : Nat → Nat) : ∀ n, minN f n ≤ 13
  | 0 => by simp [minN]
  | n + 1 => by have := minN_le f n; simp only [minN]; omega
def swn (s : Cs) (c : Nat) : Cs := if c = 0 then s else swapC s (c - 1) c
def kL (L : Ld) : Nat → Cs → Nat
  | 0, s => cnt s.2.2.2.2
  | n + 1, s => minN (fun c => maxN (fun h => kL L n (sayC L (swn s c) h)) L.1) 12
theorem kL_le (L : Ld) : ∀ n s, kL L n s ≤ 13
  | 0, s => by have := cnt_le s.2.2.2.2; simp only [kL]; omega
  | n + 1, s => minN_le _ _
def gld (s : Cs) (g : Int32) : Cs := (s.1, s.2.1, g, s.2.2.2)
theorem say_gld (L : Ld) (s : Cs) (g : Int32) (h : Nat) : sayC L (gld s g) h = gld (sayC L s h) (g + nI (feeN (wordC L s h))) := rfl
theorem swn_gld (s : Cs) (g : Int32) (c : Nat) : swn (gld s g) c = gld (swn s c) g := by
  unfold swn; split <;> rfl
theorem kL_gld (L : Ld) : ∀ (n : Nat) (s : Cs) (g : Int32), kL L n (gld s g) = kL L n s
  | 0, s, g => rfl
  | n + 1, s, g => by
    simp only [kL]
    congr 1
    funext c
    congr 1
    funext h
    rw [swn_gld, say_gld, kL_gld L n]
theorem swn_ok {s : Cs} {c : Nat} (h : csOk s) (hc : c < 12) : csOk (swn s c) := by
  unfold swn; split
  · exact h
  · exact swapC_ok h (by omega) hc
theorem swn_dj {s : Cs} {c : Nat} (h : dj s) : dj (swn s c) := by
  unfold swn; split
  · exact h
  · exact dj_swap h
theorem swn_day (s : Cs) (c : Nat) : (swn s c).2.1 = s.2.1 := by
  unfold swn; split <;> rfl
def o_king (S : Sg) (x : Int32) : Int32 × Sg := match idx 3 x with
  | none => (-1, S)
  | some n => if (sL S).1 = 0 then (-4, S) else (nI (kL (sL S) n (sS S)), S)
section KING
variable {d : Nat} {m : pmMem} {Q : Option Value → pmMem → Prop} {S : Sg} {L : Ld} {s : Cs}
def kH (L : Ld) (n D : Nat) : Prop := ∀ (s : Cs) (m0 m : pmMem) (Q : Option Value → pmMem → Prop) (l2 l3 : Option Value), atT L s m0 m → (∀ m' g, atT L (gld s g) m0 m' → Q (some (.int (nI (kL L n s)))) m') → pm_G D mX6_leastByPeople 0 [some (.ref 0), some (.int (nI n)), l2, l3] [] m Q
theorem gld_id (s : Cs) : gld s s.2.2.1 = s := rfl
theorem kH0 : kH L 0 (d + 1) := by
  intro s m0 m Q l2 l3 h K
  refine gX6_leastByPeople_0 (fun z => absurd z (by decide)) (fun _ => ?_)
  rw [h.2.1.2.2.2.2.1]
  exact c_bitCount h.2.1.2.2.2.2.2.2.2.2 (gX6_leastByPeople_14 (K m s.2.2.1 h))
theorem c_most {n : Nat} {m0 : pmMem} {l2 l3 l4 l5 : Option Value} (hH : kH L n (d + 2)) (h : atT L s m0 m) (hn : n < 5) (K : ∀ m' g, atT L (gld s g) m0 m' → Q (some (.int (nI (maxN (fun i => kL L n (sayC L s i)) L.1)))) m') : pm_G (d + 3) mX6_mostByKing 0 [some (.ref 0), some (.int (nI (n + 1))), l2, l3, l4, l5] [] m Q := by
  have hL6 := h.1.2.1
  have fle : ∀ i, (fun i => kL L n (sayC L s i)) i ≤ 13 := fun i => kL_le L n _
  have loop : ∀ (k i : Nat) (m1 : pmMem) (g : Int32), i + k = L.1 → atT L (gld s g) m0 m1 → pm_G (d + 3) mX6_mostByKing 22 [some (.ref 0), some (.int (nI (n + 1))), some (.int (nI s.2.2.2.1)), some (.int (nI s.2.2.2.2)), some (.int (nI (maxN (fun i => kL L n (sayC L s i)) i))), some (.int (nI i))] [] m1 Q := by
    intro k
    induction k with
    | zero =>
      intro i m1 g hi h1
      have e : i = L.1 := by omega
      subst e
      have le : m1.1 8 1 ≤ nI L.1 := by rw [h1.1.1]; exact Int32.le_refl _
      exact gX6_mostByKing_22 (fun _ => K m1 g h1) (fun z => absurd le z)
    | succ k ih =>
      intro i m1 g hi h1
      have nle : ¬ m1.1 8 1 ≤ nI i := by
        rw [h1.1.1]; intro z
        have := (ni_le (by omega) (by omega)).mp z
        omega
      refine gX6_mostByKing_22 (fun z => absurd z nle) (fun _ => c_sayFrom rfl h1.1 h1.2.1 (by omega) (fun m2 g1 g2 g3 g4 => gX6_mostByKing_43 ?_))
      have a2 : ag (inC 20) m1 m2 := ag_mono (fun c z => by unfold inC; omega) g3
      have T2 : atT L (sayC L (gld s g) i) m0 m2 := ⟨landM_in rfl h1.1 a2, g1, by unfold campLen; rw [g4]; exact h1.2.2.1, ag_trans h1.2.2.2 a2⟩
      rw [nI_pred]
      refine hH (sayC L (gld s g) i) m0 m2 _ _ _ T2 (fun m3 g' h3 => gX6_mostByKing_52 (fun m4 e4 m5 e5 => ?_))
      rw [say_gld, kL_gld]
      have f1 := fle i
      have f2 := maxN_le fle i
      have em : (if nI (maxN (fun i => kL L n (sayC L s i)) i) < nI (kL L n (sayC L s i)) then nI (kL L n (sayC L s i)) else nI (maxN (fun i => kL L n (sayC L s i)) i)) = nI (maxN (fun i => kL L n (sayC L s i)) (i + 1)) := by
        have f1' : kL L n (sayC L s i) ≤ 13 := f1
        simp only [maxN]
        by_cases z : maxN (fun i => kL L n (sayC L s i)) i < kL L n (sayC L s i)
        · rw [if_pos ((ni_lt (by omega) (by omega)).mpr z), Nat.max_eq_right (by omega)]
        · rw [if_neg (fun w => z ((ni_lt (by omega) (by omega)).mp w)), Nat.max_eq_left (by omega)]
      rw [em, nI_1]
      refine ih (i + 1) m5 g' (by omega) ?_
      have a5 : ag (fun c => c = 20) m3 m5 := by rw [e5, e4]; exact ag_F (ag_F (ag_refl _ _) rfl) rfl
      have a5' : ag (inC 20) m3 m5 := ag_mono (fun c z => by unfold inC; omega) a5
      have e2 : m5.2 = m3.2 := by rw [e5, e4]; rfl
      have C := h3.2.1
      have B := h.2.1.2.2.2.2.2
      refine ⟨landM_in rfl h3.1 a5', ⟨?_, ?_, ?_, ?_, ?_, B⟩, by unfold campLen; rw [e2]; exact h3.2.2.1, ag_trans h3.2.2.2 a5'⟩
      · rw [e2]; exact C.1
      · rw [e5, pm_rF, if_neg (by omega), e4, pm_rF, if_neg (by omega)]; exact C.2.1
      · rw [e5, pm_rF, if_neg (by omega), e4, pm_rF, if_neg (by omega)]; exact C.2.2.1
      · rw [e5, pm_rF, if_neg (by omega), e4, pm_rF, if_pos ⟨rfl, rfl⟩]; rfl
      · rw [e5, pm_rF, if_pos ⟨rfl, rfl⟩]; rfl
  have C := h.2.1
  refine gX6_mostByKing_0 ?_
  rw [C.2.2.2.1, C.2.2.2.2.1]
  exact loop L.1 0 m s.2.2.1 (by omega) h
theorem kHS {n : Nat} (hn : n < 5) (hH : kH L n (d + 2)) : kH L (n + 1) (d + 4) := by
  intro s m0 m Q l2 l3 h K
  have ok := h.2.1.2.2.2.2.2
  have p0 : (0 : Int32) < nI (n + 1) := by
    rw [show (0 : Int32) = nI 0 from rfl, ni_lt (by omega) (by omega)]; omega
  refine gX6_leastByPeople_0 (fun _ => c_most hH h hn (fun m1 g1 h1 => gX6_leastByPeople_20 ?_)) (fun z => absurd p0 z)
  have fle : ∀ c, (fun c => maxN (fun h => kL L n (sayC L (swn s c) h)) L.1) c ≤ 13 := fun c => maxN_le (fun i => kL_le L n _) _
  have loop : ∀ (k i : Nat) (m1 : pmMem) (g : Int32), i + k = 11 → atT L (gld s g) m0 m1 → pm_G (d + 4) mX6_leastByPeople 23 [some (.ref 0), some (.int (nI (n + 1))), some (.int (nI (minN (fun c => maxN (fun h => kL L n (sayC L (swn s c) h)) L.1) (i + 1)))), some (.int (nI i))] [] m1 Q := by
    intro k
    induction k with
    | zero =>
      intro i m1 g hi h1
      have e : i = 11 := by omega
      subst e
      exact gX6_leastByPeople_23 (fun _ => K m1 g h1) (fun z => absurd (by decide) z)
    | succ k ih =>
      intro i m1 g hi h1
      refine gX6_leastByPeople_23 ?_ ?_ <;> rw [nI_1]
      · intro z; exact absurd z (n12 (by omega))
      · intro _
        refine c_swapT h1 (by omega) (by omega) (fun m2 h2 => gX6_leastByPeople_42 ?_)
        refine c_most hH h2 hn (fun m3 g3 h3 => gX6_leastByPeople_48 ?_)
        rw [nI_1]
        refine c_swapT h3 (by omega) (by omega) (fun m4 h4 => gX6_leastByPeople_63 ?_)
        have e1 : (fun j => kL L n (sayC L (swapC (gld s g) i (i + 1)) j)) = (fun h => kL L n (sayC L (swn s (i + 1)) h)) := by
          funext j
          rw [show swapC (gld s g) i (i + 1) = gld (swn s (i + 1)) g from rfl, say_gld, kL_gld]
        rw [e1]
        have f1 : maxN (fun h => kL L n (sayC L (swn s (i + 1)) h)) L.1 ≤ 13 := fle (i + 1)
        have f2 := minN_le (fun c => maxN (fun h => kL L n (sayC L (swn s c) h)) L.1) (i + 1)
        have em : (if nI (maxN (fun h => kL L n (sayC L (swn s (i + 1)) h)) L.1) < nI (minN (fun c => maxN (fun h => kL L n (sayC L (swn s c) h)) L.1) (i + 1)) then nI (maxN (fun h => kL L n (sayC L (swn s (i + 1)) h)) L.1) else nI (minN (fun c => maxN (fun h => kL L n (sayC L (swn s c) h)) L.1) (i + 1))) = nI (minN (fun c => maxN (fun h => kL L n (sayC L (swn s c) h)) L.1) (i + 1 + 1)) := by
          rw [show minN (fun c => maxN (fun h => kL L n (sayC L (swn s c) h)) L.1) (i + 1 + 1) = min (minN (fun c => maxN (fun h => kL L n (sayC L (swn s c) h)) L.1) (i + 1)) (maxN (fun h => kL L n (sayC L (swn s (i + 1)) h)) L.1) from rfl]
          by_cases z : maxN (fun h => kL L n (sayC L (swn s (i + 1)) h)) L.1 < minN (fun c => maxN (fun h => kL L n (sayC L (swn s c) h)) L.1) (i + 1)
          · rw [if_pos ((ni_lt (by omega) (by omega)).mpr z), Nat.min_eq_right (by omega)]
          · rw [if_neg (fun w => z ((ni_lt (by omega) (by omega)).mp w)), Nat.min_eq_left (by omega)]
        rw [em, nI_1]
        refine ih (i + 1) m4 g3 (by omega) ?_
        have e4 : swapC (gld (swapC (gld s g) i (i + 1)) g3) i (i + 1) = gld s g3 := by
          rw [show swapC (gld (swapC (gld s g) i (i + 1)) g3) i (i + 1) = gld (swapC (swapC s i (i + 1)) i (i + 1)) g3 from rfl, swapC_2 ok (by omega) (by omega)]
        rw [e4] at h4
        exact h4
  have := loop 11 0 m1 g1 (by omega) h1
  rw [show minN (fun c => maxN (fun h => kL L n (sayC L (swn s c) h)) L.1) (0 + 1) = min 13 (maxN (fun h => kL L n (sayC L s h)) L.1) from rfl, Nat.min_eq_right (show maxN (fun h => kL L n (sayC L s h)) L.1 ≤ 13 from fle 0)] at this
  exact this
theorem C_king {x : Int32} (h : RC S m) (K : okC (o_king S x) m Q) : pm_G (d + 7) mX6_king 0 [some (.ref 0), some (.int x)] [] m Q := by
  have hL := h.2.2.1
  by_cases hx : 0 ≤ x.toInt ∧ x.toInt < (3 : Nat)
  · obtain ⟨n, i1, i2, i3⟩ := idx_some (n := 3) (by omega) hx.1 hx.2
    simp only [o_king, i1] at K
    refine gX6_king_0 (fun z => absurd (i32_neg.mp z) (by omega)) (fun _ _ => c_hasNoHills hL (fun hz => ?_) (fun hz => ?_)) (fun _ z => absurd ((i32_le' (n := 2) (by omega)).mpr (by omega)) z)
    · rw [if_pos hz] at K
      exact gX6_king_15 (fun z => absurd z (by decide)) (fun _ => K m h (ag_refl _ _))
    · rw [if_neg hz] at K
      refine gX6_king_15 (fun _ => c_trial h (fun m1 h1 hF1 ha1 => gX6_king_32 ?_)) (fun z => absurd rfl z)
      have T1 : atT (sL S) (sS S) m1 m1 := ⟨h1.2.2.1, hF1.1, len_of_campF hF1, ag_refl _ _⟩
      have hH : kH (sL S) n (d + 6) := by
        rcases (show n = 0 ∨ n = 1 ∨ n = 2 by omega) with e | e | e
        · rw [e]; exact kH0 (d := d + 5)
        · rw [e]; exact kHS (d := d + 2) (by omega) (kH0 (d := d + 3))
        · rw [e]; exact kHS (d := d + 2) (by omega) (kHS (d := d) (by omega) (kH0 (d := d + 1)))
      rw [i3]
      refine hH _ _ _ _ _ _ T1 (fun m2 g h2 => gX6_king_37 (K m2 (RC_trial h1 h2.2.2.2 h2.2.2.1) ?_))
      exact ag_trans (ag_mono (fun c z => by unfold inC at z; omega) ha1) (ag_mono (fun c z => by unfold inC at z; omega) h2.2.2.2)
  · have i1 := idx_none hx
    simp only [o_king, i1] at K
    refine gX6_king_0 (fun _ => K m h (ag_refl _ _)) (fun z1 z2 => ?_) (fun _ _ => K m h (ag_refl _ _))
    exfalso
    apply hx
    rw [i32_neg] at z1
    rw [show (2 : Int32) = nI 2 from rfl, i32_le' (by omega)] at z2
    omega
end KING

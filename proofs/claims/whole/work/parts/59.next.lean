def swp (p : List Nat) (a b : Nat) : List Nat := (p.set a (p.getD b 0)).set b (p.getD a 0)
def kfd (p : List Nat) : Nat → Option Nat
  | 0 => none
  | i + 1 => if p.getD i 0 ≤ p.getD (i + 1) 0 then some i else kfd p i
def jfd (p : List Nat) (k : Nat) : Nat → Nat
  | 0 => 0
  | j + 1 => if p.getD k 0 ≤ p.getD (j + 1) 0 then j + 1 else jfd p k j
def rvs (e : Nat) : Nat → Nat → List Nat → List Nat
  | 0, _, p => p
  | f + 1, a, p => if e - a ≤ a then p else rvs e f (a + 1) (swp p a (e - a))
def nxt (n : Nat) (p : List Nat) : Option (List Nat) := match kfd p (n - 1) with
  | none => none
  | some k => some (rvs (n + k) 12 (k + 1) (swp p k (jfd p k (n - 1))))
def tlO (n : Nat) : List Nat := (List.range (6 - n)).map (fun i => n + i)
def chn (n : Nat) : List Nat → List (List Nat) → Bool
  | p, [] => decide (nxt n (p ++ tlO n) = none)
  | p, q :: l => decide (nxt n (p ++ tlO n) = some (q ++ tlO n)) && chn n q l
theorem ords_chn : ∀ n, n < 7 → 0 < n → (match ords n with
    | [] => false
    | p :: l => decide (p ++ tlO n = [0, 1, 2, 3, 4, 5]) && chn n p l) = true := by
  decide +kernel
theorem map_gd (p : List Nat) (i : Nat) : (p.map nI).getD i 0 = nI (p.getD i 0) := by
  rw [List.getD_eq_getElem?_getD, List.getD_eq_getElem?_getD, List.getElem?_map]
  cases p[i]? <;> rfl
theorem swp_len (p : List Nat) (a b : Nat) : (swp p a b).length = p.length := by unfold swp; rw [List.length_set, List.length_set]
theorem kfd_lt {p : List Nat} {k : Nat} : ∀ i, kfd p i = some k → k < i
  | 0, h => by simp [kfd] at h
  | i + 1, h => by
    simp only [kfd] at h
    by_cases c : p.getD i 0 ≤ p.getD (i + 1) 0
    · rw [if_pos c] at h; simp only [Option.some.injEq] at h; omega
    · rw [if_neg c] at h; have := kfd_lt i h; omega
theorem jfd_le {p : List Nat} {k : Nat} : ∀ j, jfd p k j ≤ j
  | 0 => by simp [jfd]
  | j + 1 => by
    simp only [jfd]
    split
    · omega
    · have := jfd_le (p := p) (k := k) j; omega
section NEXT
variable {d : Nat} {m m0 : pmMem} {Q : Option Value → pmMem → Prop} {S : Sg} {n : Nat} {p : List Nat}
def only84 (c : Nat) : Prop := c = 84
theorem c7_nextOrder {l1 l2 l3 l4 l5 : Option Value} (h4 : m.1 65 4 = nI n) (hn : n ≤ 6) (hn0 : n ≠ 0) (h84 : m.2.1 84 = p.map nI) (hl : p.length = 6) (hv : ∀ i, p.getD i 0 < 100) (kf : nxt n p = none → Q (some (.int 0)) m) (kt : ∀ p' m', nxt n p = some p' → m'.2.1 84 = p'.map nI → p'.length = 6 → agA only84 m m' → Q (some (.int 1)) m') : pm_G d mX7_nextOrder 0 [some (.ref 65), l1, l2, l3, l4, l5] [] m Q := by
  have l84 : (m.2.1 84).length = 6 := by rw [h84, List.length_map]; exact hl
  have gd : ∀ i, (m.2.1 84).getD i 0 = nI (p.getD i 0) := fun i => by rw [h84]; exact map_gd p i
  have rloop : ∀ (k f a : Nat) (q : List Nat) (m1 : pmMem) (x2 x3 : Int32) (l5 : Option Value), k < n → a + f = 13 + k → k < a → m1.1 = m.1 → agA only84 m m1 → m1.2.1 84 = q.map nI → q.length = 6 → (∀ m', m'.2.1 84 = (rvs (n + k) f a q).map nI → (rvs (n + k) f a q).length = 6 → agA only84 m m' → Q (some (.int 1)) m') → a ≤ n → pm_G d mX7_nextOrder 99 [some (.ref 65), some (.int (nI k)), some (.int x2), some (.int x3), some (.int (nI a)), l5] [] m1 Q := by
    intro k f
    induction f with
    | zero => intro a q m1 x2 x3 l5 hk hf ha _ _ _ _ _ han; omega
    | succ f ih =>
      intro a q m1 x2 x3 l5 hk hf ha f1 a1 e1 ql K1 han
      have ex : ((m1.1 65 4) + nI k) - nI a = nI (n + k - a) := by rw [f1, h4, nI_add, nI_sub (by omega)]
      have le : (nI (n + k - a) ≤ nI a) ↔ n + k - a ≤ a := ni_le (by omega) (by omega)
      have l1' : (m1.2.1 84).length = 6 := by rw [e1, List.length_map]; exact ql
      simp only [rvs] at K1
      refine gX7_nextOrder_99 ?_ ?_ ?_ ?_ ?_ <;> rw [ex, le]
      · intro z; rw [l1']; exact ni_in (by omega) (by omega)
      · intro z m2 e2
        have : ((m2.1 65 4) + nI k) - nI a = nI (n + k - a) := by rw [e2]; exact ex
        rw [this, e2, pm_rA, if_pos rfl, List.length_set, l1']; exact ni_in (by omega) (by omega)
      · intro z; rw [l1']; exact ni_in (by omega) (by omega)
      · intro z
        rw [if_pos z] at K1
        exact K1 m1 e1 ql a1
      · intro z m2 e2 m3 e3
        rw [if_neg z] at K1
        have ex2 : ((m2.1 65 4) + nI k) - nI a = nI (n + k - a) := by rw [e2]; exact ex
        have y2 : m2.2.1 84 = (q.set a (q.getD (n + k - a) 0)).map nI := by
          rw [e2, pm_rA, if_pos rfl, ni_cl (by omega), ni_cl (by omega), e1, map_gd, List.map_set]
        rw [ex2, ni_cl (by omega), ni_cl (by omega), y2, e1, map_gd, ← List.map_set] at e3
        have y3 : m3.2.1 84 = (swp q a (n + k - a)).map nI := by rw [e3, pm_rA, if_pos rfl]; rfl
        rw [nI_1]
        refine ih (a + 1) (swp q a (n + k - a)) m3 _ _ _ hk (by omega) (by omega) (by rw [e3, e2]; exact f1) (by rw [e3, e2]; exact agA_A (agA_A a1 rfl) rfl) y3 (by rw [swp_len]; exact ql) K1 (by omega)
  have jloop : ∀ (k : Nat), kfd p (n - 1) = some k → ∀ (j : Nat) (l3 l4 l5 : Option Value), k ≤ j → j < n → jfd p k (n - 1) = jfd p k j → pm_G d mX7_nextOrder 47 [some (.ref 65), some (.int (nI k)), some (.int (nI j)), l3, l4, l5] [] m Q := by
    intro k hk j
    have kn := kfd_lt _ hk
    have found : ∀ (j : Nat) (l3 l4 l5 : Option Value), k ≤ j → j < n → p.getD k 0 ≤ p.getD j 0 → jfd p k (n - 1) = j → pm_G d mX7_nextOrder 47 [some (.ref 65), some (.int (nI k)), some (.int (nI j)), l3, l4, l5] [] m Q := by
      intro j l3 l4 l5 kj jn le ej
      have hk1 := hv k
      have hj1 := hv j
      have ci : (nI k).toNatClampNeg = k := ni_cl (by omega)
      have cj : (nI j).toNatClampNeg = j := ni_cl (by omega)
      have vk : vp_in (nI k) (m.2.1 84).length := by rw [l84]; exact ni_in (by omega) (by omega)
      have vj : vp_in (nI j) (m.2.1 84).length := by rw [l84]; exact ni_in (by omega) (by omega)
      have c : ((m.2.1 84).getD (nI k).toNatClampNeg 0 ≤ (m.2.1 84).getD (nI j).toNatClampNeg 0) := by
        rw [ci, cj, gd, gd]; exact (ni_le (by omega) (by omega)).mpr le
      refine gX7_nextOrder_47 (fun _ => vk) (fun _ m1 e1 => ?_) (fun _ => vj) vk vj (fun _ m1 e1 m2 e2 => ?_) (fun z => absurd c z)
      · rw [e1, pm_rA, if_pos rfl, List.length_set]; exact vj
      · have x1 : m1.2.1 84 = (p.set k (p.getD j 0)).map nI := by
          rw [e1, pm_rA, if_pos rfl, ci, cj, h84, map_gd, List.map_set]
        rw [x1, ci, cj, gd, ← List.map_set] at e2
        have x2 : m2.2.1 84 = (swp p k j).map nI := by rw [e2, pm_rA, if_pos rfl]; rfl
        rw [nI_1]
        refine rloop k 12 (k + 1) (swp p k j) m2 _ _ _ (by omega) (by omega) (by omega) (by rw [e2, e1]; rfl) (by rw [e2, e1]; exact agA_A (agA_A (agA_refl _ _) rfl) rfl) x2 (by rw [swp_len]; exact hl) (fun m' y1 y2 y3 => kt _ m' ?_ y1 y2 y3) (by omega)
        unfold nxt; rw [hk]; simp only [ej]
    induction j with
    | zero =>
      intro l3 l4 l5 kj jn ej
      have k0 : k = 0 := by omega
      subst k0
      exact found 0 l3 l4 l5 (by omega) (by omega) (Nat.le_refl _) (by rw [ej]; rfl)
    | succ j ih =>
      intro l3 l4 l5 kj jn ej
      simp only [jfd] at ej
      by_cases c : p.getD k 0 ≤ p.getD (j + 1) 0
      · rw [if_pos c] at ej
        exact found (j + 1) l3 l4 l5 kj jn c ej
      · rw [if_neg c] at ej
        have kj' : k ≤ j := by
          rcases Nat.lt_or_ge j k with w | w
          · exfalso
            have : k = j + 1 := by omega
            rw [this] at c
            exact c (Nat.le_refl _)
          · exact w
        have hk1 := hv k
        have hj1 := hv (j + 1)
        have ci : (nI k).toNatClampNeg = k := ni_cl (by omega)
        have cj : (nI (j + 1)).toNatClampNeg = j + 1 := ni_cl (by omega)
        have vk : vp_in (nI k) (m.2.1 84).length := by rw [l84]; exact ni_in (by omega) (by omega)
        have vj : vp_in (nI (j + 1)) (m.2.1 84).length := by rw [l84]; exact ni_in (by omega) (by omega)
        have nc : ¬ ((m.2.1 84).getD (nI k).toNatClampNeg 0 ≤ (m.2.1 84).getD (nI (j + 1)).toNatClampNeg 0) := by
          rw [ci, cj, gd, gd, ni_le (by omega) (by omega)]; exact c
        refine gX7_nextOrder_47 (fun z => absurd z nc) (fun z => absurd z nc) (fun z => absurd z nc) vk vj (fun z => absurd z nc) (fun _ => ?_)
        rw [pk_m1]
        exact ih l3 l4 l5 kj' (by omega) ej
  have kloop : ∀ (i : Nat) (l2 l3 l4 l5 : Option Value), i < n → kfd p (n - 1) = kfd p i → pm_G d mX7_nextOrder 7 [some (.ref 65), some (.int (nI i - 1)), l2, l3, l4, l5] [] m Q := by
    intro i
    induction i with
    | zero =>
      intro l2 l3 l4 l5 hi ek
      have lt : nI 0 - 1 < 0 := by decide
      exact gX7_nextOrder_7 (fun z => absurd lt z) (fun z => absurd lt z) (fun _ z => absurd z (by decide)) (fun _ _ => kf (by unfold nxt; rw [ek]; rfl)) (fun z => absurd lt z) (fun z => absurd lt z) (fun z => absurd lt z)
    | succ i ih =>
      intro l2 l3 l4 l5 hi ek
      rw [nI_pred]
      have nlt : ¬ nI i < 0 := nI_pos (by omega)
      have p0 : (0 : Int32) ≤ nI i := nI_pos' (by omega)
      have h1 := hv i
      have h2 := hv (i + 1)
      have ci : (nI i).toNatClampNeg = i := ni_cl (by omega)
      have ci1 : (nI i + 1).toNatClampNeg = i + 1 := by rw [nI_1]; exact ni_cl (by omega)
      have e : ((m.2.1 84).getD (nI i).toNatClampNeg 0 ≤ (m.2.1 84).getD (nI i + 1).toNatClampNeg 0) ↔ p.getD i 0 ≤ p.getD (i + 1) 0 := by
        rw [ci, ci1, gd, gd, ni_le (by omega) (by omega)]
      simp only [kfd] at ek
      refine gX7_nextOrder_7 (fun _ => by rw [nI_1, l84]; exact ni_in (by omega) (by omega)) (fun _ => by rw [l84]; exact ni_in (by omega) (by omega)) (fun z => absurd z nlt) (fun z => absurd z nlt) ?_ (fun _ _ z => absurd p0 z) ?_ <;> rw [e]
      · intro _ c _
        rw [if_pos c] at ek
        rw [h4, show (1 : Int32) = nI 1 from rfl, nI_sub (by omega)]
        exact jloop i ek (n - 1) _ _ _ (by omega) (by omega) rfl
      · intro _ c
        rw [if_neg c] at ek
        have nx := ih l2 l3 l4 l5 (by omega) ek
        have em : nI i + (-1) = nI i - 1 := by
          cases i with
          | zero => decide
          | succ i => rw [pk_m1, nI_pred]
        rw [em]; exact nx
  refine gX7_nextOrder_0 ?_
  have e2 : m.1 65 4 - 2 = nI (n - 1) - 1 := by
    rw [h4]
    cases n with
    | zero => omega
    | succ k =>
      rw [Nat.add_sub_cancel]
      cases k with
      | zero => decide
      | succ k => rw [show (2 : Int32) = nI 2 from rfl, nI_sub (by omega), nI_pred]; rfl
  rw [e2]
  exact kloop (n - 1) _ _ _ _ (by omega) rfl
end NEXT

/-! orders of all hills -/
def dfsL (n : Nat) : Nat → Nat → List Nat → List (List Nat)
  | 0, _, pre => [pre]
  | f + 1, used, pre => (List.range n).flatMap (fun h => if used.testBit h then [] else dfsL n f (used ||| 2 ^ h) (pre ++ [h]))
def ords (n : Nat) : List (List Nat) := dfsL n n 0 []
def ordS (L : Ld) (s : Cs) (p : List Nat) : Cs := p.foldl (sayC L) s
theorem ordS_snoc (L : Ld) (s : Cs) (p : List Nat) (h : Nat) : ordS L s (p ++ [h]) = sayC L (ordS L s p) h := by
  unfold ordS; rw [List.foldl_append]; rfl
theorem ordS_g (L : Ld) : ∀ (p : List Nat) (s : Cs), (ordS L s p).1 = s.1 ∧ (ordS L s p).2.1 = s.2.1
  | [], s => ⟨rfl, rfl⟩
  | h :: p, s => ordS_g L p (sayC L s h)
theorem ordS_seen (L : Ld) (p : List Nat) (s : Cs) (h : Nat) : seenC L (ordS L s p) h = seenC L s h := by
  unfold seenC; rw [(ordS_g L p s).1, (ordS_g L p s).2]
theorem ordS_word (L : Ld) (p : List Nat) (s : Cs) (h : Nat) : wordC L (ordS L s p) h = wordC L s h := by
  unfold wordC sumC; rw [(ordS_g L p s).1, (ordS_g L p s).2]
theorem ordS_ok (L : Ld) : ∀ (p : List Nat) (s : Cs), csOk s → csOk (ordS L s p)
  | [], _, h => h
  | a :: p, s, h => ordS_ok L p (sayC L s a) (sayC_ok h)
theorem ordS_dj (L : Ld) : ∀ (p : List Nat) (s : Cs), dj s → dj (ordS L s p)
  | [], _, h => h
  | a :: p, s, h => ordS_dj L p (sayC L s a) (dj_say h)
abbrev OW : Type := Option (Nat × List Nat) × Option (Nat × List Nat) × Nat × Nat
def upW (o : Option (Nat × List Nat)) (v : Nat) : Bool := match o with
  | none => true
  | some x => decide (x.1 < v)
def dnW (o : Option (Nat × List Nat)) (v : Nat) : Bool := match o with
  | none => true
  | some x => decide (v < x.1)
def wA (W : OW) (v : Nat) (p : List Nat) : OW := if upW W.1 v then (some (v, p), W.2) else W
def wB (W : OW) (v : Nat) (p : List Nat) : OW := if dnW W.2.1 v then (W.1, some (v, p), W.2.2) else W
def wC (W : OW) (t v c : Nat) : OW := if v = t then (W.1, W.2.1, W.2.2.1 + 1, W.2.2.2 &&& c) else W
def wgh (L : Ld) (s : Cs) (t : Nat) (W : OW) (p : List Nat) : OW := wC (wB (wA W (cnt (ordS L s p).2.2.2.2) p) (cnt (ordS L s p).2.2.2.2) p) t (cnt (ordS L s p).2.2.2.2) (ordS L s p).2.2.2.2
def W0 : OW := (none, none, 0, 4095)
def ordW (L : Ld) (s : Cs) (t : Nat) : OW := (ords L.1).foldl (wgh L s t) W0
def wM1 (n : Nat) (o : Option (Nat × List Nat)) (m : pmMem) : Prop := match o with
  | none => m.1 26 8 = -1
  | some x => m.1 26 8 = nI x.1 ∧ x.1 ≤ 12 ∧ x.2.length = n ∧ (m.2.1 30).take n = x.2.map nI
def wM2 (n : Nat) (o : Option (Nat × List Nat)) (m : pmMem) : Prop := match o with
  | none => m.1 26 9 = 13
  | some x => m.1 26 9 = nI x.1 ∧ x.1 ≤ 12 ∧ x.2.length = n ∧ (m.2.1 31).take n = x.2.map nI
def wM3 (f c : Nat) (m : pmMem) : Prop := m.1 26 10 = nI f ∧ m.1 26 11 = nI c ∧ c < 4096
def seM (L : Ld) (s : Cs) (t used : Nat) (pre : List Nat) (W : OW) (m : pmMem) : Prop := m.1 26 5 = nI L.1 ∧ m.1 26 6 = nI used ∧ m.1 26 7 = nI t ∧ ((m.2.1 27).length = 6 ∧ (m.2.1 28).length = 6 ∧ (m.2.1 29).length = 6 ∧ (m.2.1 30).length = 6 ∧ (m.2.1 31).length = 6) ∧ (∀ h, h < L.1 → (m.2.1 27).getD h 0 = nI (seenC L s h) ∧ (m.2.1 28).getD h 0 = nI (wordC L s h)) ∧ (m.2.1 29).take pre.length = pre.map nI ∧ wM1 L.1 W.1 m ∧ wM2 L.1 W.2.1 m ∧ wM3 W.2.2.1 W.2.2.2 m
def seD (c : Nat) : Prop := 26 ≤ c ∧ c < 32
section ORD
variable {d : Nat} {m m0 : pmMem} {Q : Option Value → pmMem → Prop} {L : Ld} {s : Cs} {t used : Nat} {pre : List Nat} {W : OW}
theorem se_A {v : Nat} {m1 m2 : pmMem} (h : seM L s t used pre W m) (hp : pre.length = L.1) (hv : v ≤ 12) (e1 : m1 = pm_setF m 26 8 (nI v)) (e2 : m2 = pm_setA m1 30 (pm_cpy (m1.2.1 29) (m1.2.1 30) 0 0 6)) : seM L s t used pre (some (v, pre), W.2) m2 := by
  obtain ⟨h1, h2, h3, ⟨l7, l8, l9, l0, lx⟩, h5, h6, h7, h8, h9⟩ := h
  have ec : pm_cpy (m1.2.1 29) (m1.2.1 30) 0 0 6 = m.2.1 29 := by rw [e1]; exact cpy_all (f := m.2.1 29) (g := m.2.1 30) l9 l0
  rw [ec] at e2
  have A : ∀ c, c ≠ 30 → m2.2.1 c = m.2.1 c := fun c hc => by rw [e2, pm_rA, if_neg hc, e1]; rfl
  have A30 : m2.2.1 30 = m.2.1 29 := by rw [e2, pm_rA, if_pos rfl]
  have F : ∀ k, k ≠ 8 → m2.1 26 k = m.1 26 k := fun k hk => by rw [e2, pm_rAF, e1, pm_rF, if_neg (by omega)]
  have F8 : m2.1 26 8 = nI v := by rw [e2, pm_rAF, e1, pm_rF, if_pos ⟨rfl, rfl⟩]
  refine ⟨by rw [F 5 (by omega)]; exact h1, by rw [F 6 (by omega)]; exact h2, by rw [F 7 (by omega)]; exact h3, ⟨by rw [A 27 (by omega)]; exact l7, by rw [A 28 (by omega)]; exact l8, by rw [A 29 (by omega)]; exact l9, by rw [A30]; exact l9, by rw [A 31 (by omega)]; exact lx⟩, by rw [A 27 (by omega), A 28 (by omega)]; exact h5, by rw [A 29 (by omega)]; exact h6, ⟨F8, hv, hp, by rw [A30, ← hp]; exact h6⟩, ?_, by unfold wM3; rw [F 10 (by omega), F 11 (by omega)]; exact h9⟩
  show wM2 L.1 W.2.1 m2
  unfold wM2 at h8 ⊢
  rw [F 9 (by omega), A 31 (by omega)]; exact h8
theorem se_B {v : Nat} {m1 m2 : pmMem} (h : seM L s t used pre W m) (hp : pre.length = L.1) (hv : v ≤ 12) (e1 : m1 = pm_setF m 26 9 (nI v)) (e2 : m2 = pm_setA m1 31 (pm_cpy (m1.2.1 29) (m1.2.1 31) 0 0 6)) : seM L s t used pre (W.1, some (v, pre), W.2.2) m2 := by
  obtain ⟨h1, h2, h3, ⟨l7, l8, l9, l0, lx⟩, h5, h6, h7, h8, h9⟩ := h
  have ec : pm_cpy (m1.2.1 29) (m1.2.1 31) 0 0 6 = m.2.1 29 := by rw [e1]; exact cpy_all (f := m.2.1 29) (g := m.2.1 31) l9 lx
  rw [ec] at e2
  have A : ∀ c, c ≠ 31 → m2.2.1 c = m.2.1 c := fun c hc => by rw [e2, pm_rA, if_neg hc, e1]; rfl
  have A31 : m2.2.1 31 = m.2.1 29 := by rw [e2, pm_rA, if_pos rfl]
  have F : ∀ k, k ≠ 9 → m2.1 26 k = m.1 26 k := fun k hk => by rw [e2, pm_rAF, e1, pm_rF, if_neg (by omega)]
  have F9 : m2.1 26 9 = nI v := by rw [e2, pm_rAF, e1, pm_rF, if_pos ⟨rfl, rfl⟩]
  refine ⟨by rw [F 5 (by omega)]; exact h1, by rw [F 6 (by omega)]; exact h2, by rw [F 7 (by omega)]; exact h3, ⟨by rw [A 27 (by omega)]; exact l7, by rw [A 28 (by omega)]; exact l8, by rw [A 29 (by omega)]; exact l9, by rw [A 30 (by omega)]; exact l0, by rw [A31]; exact l9⟩, by rw [A 27 (by omega), A 28 (by omega)]; exact h5, by rw [A 29 (by omega)]; exact h6, ?_, ⟨F9, hv, hp, by rw [A31, ← hp]; exact h6⟩, by unfold wM3; rw [F 10 (by omega), F 11 (by omega)]; exact h9⟩
  show wM1 L.1 W.1 m2
  unfold wM1 at h7 ⊢
  rw [F 8 (by omega), A 30 (by omega)]; exact h7
theorem se_C {c : Nat} {m1 m2 : pmMem} (h : seM L s t used pre W m) (e1 : m1 = pm_setF m 26 10 ((m.1 26 10) + 1)) (e2 : m2 = pm_setF m1 26 11 ((m1.1 26 11) &&& nI c)) : seM L s t used pre (W.1, W.2.1, W.2.2.1 + 1, W.2.2.2 &&& c) m2 := by
  obtain ⟨h1, h2, h3, h4, h5, h6, h7, h8, h9⟩ := h
  have A : m2.2 = m.2 := by rw [e2, e1]; rfl
  have F : ∀ k, k ≠ 10 → k ≠ 11 → m2.1 26 k = m.1 26 k := fun k hk hk2 => by rw [e2, pm_rF, if_neg (by omega), e1, pm_rF, if_neg (by omega)]
  have G11 : m1.1 26 11 = nI W.2.2.2 := by rw [e1, pm_rF, if_neg (by omega)]; exact h9.2.1
  rw [G11, ni_and] at e2
  refine ⟨by rw [F 5 (by omega) (by omega)]; exact h1, by rw [F 6 (by omega) (by omega)]; exact h2, by rw [F 7 (by omega) (by omega)]; exact h3, by rw [A]; exact h4, by rw [A]; exact h5, by rw [A]; exact h6, ?_, ?_, ⟨?_, ?_, Nat.lt_of_le_of_lt Nat.and_le_left h9.2.2⟩⟩
  · show wM1 L.1 W.1 m2
    unfold wM1 at h7 ⊢; rw [F 8 (by omega) (by omega), A]; exact h7
  · show wM2 L.1 W.2.1 m2
    unfold wM2 at h8 ⊢; rw [F 9 (by omega) (by omega), A]; exact h8
  · rw [e2, pm_rF, if_neg (by omega), e1, pm_rF, if_pos ⟨rfl, rfl⟩, h9.1, nI_1]
  · rw [e2, pm_rF, if_pos ⟨rfl, rfl⟩]
theorem se_up {v : Nat} (h : seM L s t used pre W m) (hv : v ≤ 12) : (nI v ≤ m.1 26 8) ↔ ¬ upW W.1 v = true := by
  have h7 := h.2.2.2.2.2.2.1
  unfold wM1 at h7
  unfold upW
  cases e : W.1 with
  | none =>
    rw [e] at h7
    simp only at h7 ⊢
    rw [h7, Int32.le_iff_toInt_le, nI_toInt (by omega)]
    simp only [not_true_eq_false, iff_false]
    intro z
    have : (v : Int) ≤ -1 := z
    omega
  | some x =>
    rw [e] at h7
    simp only at h7 ⊢
    rw [h7.1, ni_le (by omega) (by omega), decide_eq_true_eq]; omega
theorem se_dn {v : Nat} (h : seM L s t used pre W m) (hv : v ≤ 12) : (m.1 26 9 ≤ nI v) ↔ ¬ dnW W.2.1 v = true := by
  have h8 := h.2.2.2.2.2.2.2.1
  unfold wM2 at h8
  unfold dnW
  cases e : W.2.1 with
  | none =>
    rw [e] at h8
    simp only at h8 ⊢
    rw [h8, show (13 : Int32) = nI 13 from rfl, ni_le (by omega) (by omega)]
    simp only [not_true_eq_false, iff_false]
    omega
  | some x =>
    rw [e] at h8
    simp only at h8 ⊢
    rw [h8.1, ni_le (by omega) (by omega), decide_eq_true_eq]; omega
theorem c_weigh {l2 : Option Value} (h : seM L s t used pre W m) (hp : pre.length = L.1) (ht : t ≤ 12) (hok : csOk s) (ha : ag seD m0 m) (K : ∀ m', seM L s t used pre (wgh L s t W pre) m' → ag seD m0 m' → Q none m') : pm_G (d + 1) mX3_weigh 0 [some (.ref 26), some (.int (nI (ordS L s pre).2.2.2.2)), l2] [] m Q := by
  have c4 := (ordS_ok L pre s hok).2.2.2
  have cl := cnt_le (ordS L s pre).2.2.2.2
  refine gX3_weigh_0 (c_bitCount c4 ?_)
  unfold wgh at K
  generalize hc : (ordS L s pre).2.2.2.2 = c at *
  generalize cnt c = v at *
  have et : ∀ mm W', seM L s t used pre W' mm → ((nI v = mm.1 26 7) ↔ v = t) := fun mm W' hh => by rw [hh.2.2.1]; exact ni_eq (by omega) (by omega)
  have six : ∀ mm W', seM L s t used pre W' mm → 0 + 6 ≤ (mm.2.1 29).length ∧ 0 + 6 ≤ (mm.2.1 30).length ∧ 0 + 6 ≤ (mm.2.1 31).length := fun mm W' hh => by
    obtain ⟨_, _, _, ⟨_, _, l9, l0, lx⟩, _⟩ := hh
    rw [l9, l0, lx]; omega
  have s0 := six m W h
  have aA : ∀ m1 m2 : pmMem, ∀ x l, m1 = pm_setF m 26 8 x → m2 = pm_setA m1 30 l → ag seD m0 m2 := fun m1 m2 x l e1 e2 => by rw [e2, e1]; exact ag_A (ag_F ha (by unfold seD; omega)) (by unfold seD; omega)
  have aB : ∀ mm m1 m2 : pmMem, ∀ x l, ag seD m0 mm → m1 = pm_setF mm 26 9 x → m2 = pm_setA m1 31 l → ag seD m0 m2 := fun mm m1 m2 x l a0 e1 e2 => by rw [e2, e1]; exact ag_A (ag_F a0 (by unfold seD; omega)) (by unfold seD; omega)
  have aC : ∀ mm m1 m2 : pmMem, ∀ x y, ag seD m0 mm → m1 = pm_setF mm 26 10 x → m2 = pm_setF m1 26 11 y → ag seD m0 m2 := fun mm m1 m2 x y a0 e1 e2 => by rw [e2, e1]; exact ag_F (ag_F a0 (by unfold seD; omega)) (by unfold seD; omega)
  have up := se_up h cl
  refine gX3_weigh_4 (fun _ _ m1 e1 => by rw [e1]; exact s0.1) (fun _ _ m1 e1 => by rw [e1]; exact s0.2.2) (fun _ m1 e1 => by rw [e1]; exact s0.1) (fun _ m1 e1 => by rw [e1]; exact s0.2.1) (fun _ m1 e1 m2 e2 _ m3 e3 => by have := six m2 _ (se_A h hp cl e1 e2); rw [e3]; exact this.1) (fun _ m1 e1 m2 e2 _ m3 e3 => by have := six m2 _ (se_A h hp cl e1 e2); rw [e3]; exact this.2.2) ?_ ?_ ?_ ?_ ?_ ?_ ?_ ?_
  · intro z1 z2 z3
    rw [up] at z1; rw [se_dn h cl] at z2; rw [et m W h] at z3
    unfold wA at K; rw [if_neg z1] at K; unfold wB at K; rw [if_neg z2] at K; unfold wC at K; rw [if_neg z3] at K
    exact K m h ha
  · intro z1 z2 z3 m1 e1 m2 e2
    rw [up] at z1; rw [se_dn h cl] at z2; rw [et m W h] at z3
    unfold wA at K; rw [if_neg z1] at K; unfold wB at K; rw [if_neg z2] at K; unfold wC at K; rw [if_pos z3] at K
    exact K m2 (se_C h e1 e2) (aC m m1 m2 _ _ ha e1 e2)
  · intro z1 z2 m1 e1 m2 e2 z3
    have hB := se_B h hp cl e1 e2
    rw [up] at z1; rw [se_dn h cl] at z2; rw [et m2 _ hB] at z3
    unfold wA at K; rw [if_neg z1] at K; unfold wB at K; rw [if_pos (Decidable.not_not.mp z2)] at K; unfold wC at K; rw [if_neg z3] at K
    exact K m2 hB (aB m m1 m2 _ _ ha e1 e2)
  · intro z1 z2 m1 e1 m2 e2 z3 m3 e3 m4 e4
    have hB := se_B h hp cl e1 e2
    rw [up] at z1; rw [se_dn h cl] at z2; rw [et m2 _ hB] at z3
    unfold wA at K; rw [if_neg z1] at K; unfold wB at K; rw [if_pos (Decidable.not_not.mp z2)] at K; unfold wC at K; rw [if_pos z3] at K
    exact K m4 (se_C hB e3 e4) (aC m2 m3 m4 _ _ (aB m m1 m2 _ _ ha e1 e2) e3 e4)
  · intro z1 m1 e1 m2 e2 z2 z3
    have hA := se_A h hp cl e1 e2
    rw [up] at z1; rw [se_dn hA cl] at z2; rw [et m2 _ hA] at z3
    unfold wA at K; rw [if_pos (Decidable.not_not.mp z1)] at K; unfold wB at K; rw [if_neg z2] at K; unfold wC at K; rw [if_neg z3] at K
    exact K m2 hA (aA m1 m2 _ _ e1 e2)
  · intro z1 m1 e1 m2 e2 z2 z3 m3 e3 m4 e4
    have hA := se_A h hp cl e1 e2
    rw [up] at z1; rw [se_dn hA cl] at z2; rw [et m2 _ hA] at z3
    unfold wA at K; rw [if_pos (Decidable.not_not.mp z1)] at K; unfold wB at K; rw [if_neg z2] at K; unfold wC at K; rw [if_pos z3] at K
    exact K m4 (se_C hA e3 e4) (aC m2 m3 m4 _ _ (aA m1 m2 _ _ e1 e2) e3 e4)
  · intro z1 m1 e1 m2 e2 z2 m3 e3 m4 e4 z3
    have hA := se_A h hp cl e1 e2
    have hB := se_B hA hp cl e3 e4
    rw [up] at z1; rw [se_dn hA cl] at z2; rw [et m4 _ hB] at z3
    unfold wA at K; rw [if_pos (Decidable.not_not.mp z1)] at K; unfold wB at K; rw [if_pos (Decidable.not_not.mp z2)] at K; unfold wC at K; rw [if_neg z3] at K
    exact K m4 hB (aB m2 m3 m4 _ _ (aA m1 m2 _ _ e1 e2) e3 e4)
  · intro z1 m1 e1 m2 e2 z2 m3 e3 m4 e4 z3 m5 e5 m6 e6
    have hA := se_A h hp cl e1 e2
    have hB := se_B hA hp cl e3 e4
    rw [up] at z1; rw [se_dn hA cl] at z2; rw [et m4 _ hB] at z3
    unfold wA at K; rw [if_pos (Decidable.not_not.mp z1)] at K; unfold wB at K; rw [if_pos (Decidable.not_not.mp z2)] at K; unfold wC at K; rw [if_pos z3] at K
    exact K m6 (se_C hB e5 e6) (aC m4 m5 m6 _ _ (aB m2 m3 m4 _ _ (aA m1 m2 _ _ e1 e2) e3 e4) e5 e6)
end ORD

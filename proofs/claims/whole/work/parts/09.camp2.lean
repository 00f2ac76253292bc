theorem kd0_ge {a : Nat} (h : pm_kd a = 0) : 16 ≤ a := by
  have hl : a < 87 := pm_kd_lt h (by omega)
  have key : ∀ a, a < 87 → pm_kd a = 0 → 16 ≤ a := by decide +kernel
  exact key a hl h
def inC (a c : Nat) : Prop := a ≤ c ∧ c < a + 4
theorem landM_in {L : Ld} {a : Nat} {m m' : pmMem} (c : pm_kd a = 0) (h : landM L m) (ha : ag (inC a) m m') : landM L m' :=
  landM_ag h ha (fun c' h1 h2 z => by have := kd0_ge c; have := z.1; omega)
theorem ag_eqC {a : Nat} {m m' : pmMem} (h : ag (fun c => c = a) m m') : ag (inC a) m m' := ag_mono (fun c e => by subst e; exact ⟨Nat.le_refl _, by omega⟩) h
theorem cpy_all {f g : List Int32} {n : Nat} (hf : f.length = n) (hg : g.length = n) : pm_cpy f g 0 0 n = f := by
  simp only [pm_cpy, List.take_zero, List.nil_append, List.drop_zero, Nat.zero_add]
  rw [List.take_of_length_le (by omega), List.drop_eq_nil_of_le (by omega), List.append_nil]
def performC (L : Ld) (s : Cs) (c : Nat) : Cs := if 200 ≤ c then swapC s ((c - 200) / 12) ((c - 200) % 12) else if 100 ≤ c then sayC L s (c - 100) else dayC s
def okDeed (L : Ld) (c : Nat) : Prop := c < 100 ∨ (100 ≤ c ∧ c < 100 + L.1) ∨ (200 ≤ c ∧ c < 344)
def replay (L : Ld) (p : List Int32) (ds : List Nat) : Cs := ds.foldl (performC L) (p, 0, 0, 0, 0)
theorem swapG_len (g : List Int32) (i j : Nat) : (swapG g i j).length = g.length := by simp [swapG]
theorem swapC_ok {s : Cs} {i j : Nat} (h : csOk s) (hi : i < 12) (hj : j < 12) : csOk (swapC s i j) := ⟨(swapG_len _ _ _).trans h.1, h.2.1, swapB_lt h.2.2.1 hi hj, swapB_lt h.2.2.2 hi hj⟩
theorem sayC_ok {L : Ld} {s : Cs} {h : Nat} (hs : csOk s) : csOk (sayC L s h) := by
  have sl := seenC_lt L s h
  refine ⟨hs.1, hs.2.1, ?_, ?_⟩
  · show (if _ then _ else _) < 4096
    split
    · exact or_lt hs.2.2.1 (dif_lt sl)
    · exact hs.2.2.1
  · show (if _ then _ else _) < 4096
    split
    · exact or_lt hs.2.2.2 (dif_lt sl)
    · exact hs.2.2.2
/-- a whole camp in memory: what was pitched, its deeds, its state -/
def campLen (a : Nat) (m : pmMem) : Prop := (m.2.1 (a + 1)).length = 12 ∧ (m.2.1 (a + 2)).length = 12 ∧ (m.2.1 (a + 3)).length = 40
def campF (p : List Int32) (ds : List Nat) (s : Cs) (a : Nat) (m : pmMem) : Prop := campM s a m ∧ m.2.1 (a + 1) = p ∧ p.length = 12 ∧ m.1 a 4 = nI ds.length ∧ ds.length ≤ 40 ∧ (m.2.1 (a + 3)).length = 40 ∧ (m.2.1 (a + 3)).take ds.length = ds.map nI
theorem campF.len {p : List Int32} {ds : List Nat} {s : Cs} {a : Nat} {m : pmMem} (h : campF p ds s a m) : campLen a m := ⟨by rw [h.2.1]; exact h.2.2.1, by rw [h.1.1]; exact h.1.2.2.2.2.2.1, h.2.2.2.2.2.1⟩
theorem campM_ag {s : Cs} {a : Nat} {S : Nat → Prop} {m m' : pmMem} (h : campM s a m) (ha : ag S m m') (h0 : ¬ S a) (h2 : ¬ S (a + 2)) : campM s a m' := by
  obtain ⟨s1, s2, s3, s4, s5, t⟩ := h
  have e1 := (ha a h0).1
  have e2 := (ha (a + 2) h2).2.1
  exact ⟨by rw [e2]; exact s1, by rw [e1]; exact s2, by rw [e1]; exact s3, by rw [e1]; exact s4, by rw [e1]; exact s5, t⟩
theorem campF_ag {p : List Int32} {ds : List Nat} {s : Cs} {a : Nat} {S : Nat → Prop} {m m' : pmMem} (h : campF p ds s a m) (ha : ag S m m') (hS : ∀ c, inC a c → ¬ S c) : campF p ds s a m' := by
  obtain ⟨h1, h2, h3, h4, h5, h6, h7⟩ := h
  have i0 := hS a ⟨by omega, by omega⟩
  have i1 := hS (a + 1) ⟨by omega, by omega⟩
  have i2 := hS (a + 2) ⟨by omega, by omega⟩
  have i3 := hS (a + 3) ⟨by omega, by omega⟩
  have e3 := (ha (a + 3) i3).2.1
  refine ⟨campM_ag h1 ha i0 i2, ?_, h3, ?_, h5, ?_, ?_⟩
  · rw [(ha (a + 1) i1).2.1]; exact h2
  · rw [(ha a i0).1]; exact h4
  · rw [e3]; exact h6
  · rw [e3]; exact h7
section CAMP2
variable {d : Nat} {m : pmMem} {Q : Option Value → pmMem → Prop} {L : Ld} {s : Cs} {a h i j : Nat}
theorem c_swapBits {t : Nat} {l3 : Option Value} (ht : t < 4096) (hi : i < 12) (hj : j < 12) (K : Q (some (.int (nI (swapB t i j)))) m) : pm_G d mX0_swapBits 0 [some (.int (nI t)), some (.int (nI i)), some (.int (nI j)), l3] [] m Q := by
  have key : ((nI t >>> (nI i &&& 31)) ^^^ (nI t >>> (nI j &&& 31))) &&& 1 = nI (if t.testBit i = t.testBit j then 0 else 1) := by
    have e : ∀ x y : Int32, (x ^^^ y) &&& 1 = (x &&& 1) ^^^ (y &&& 1) := by
      intro x y
      apply Int32.toBitVec_inj.1
      show (x.toBitVec ^^^ y.toBitVec) &&& (1 : Int32).toBitVec = (x.toBitVec &&& (1 : Int32).toBitVec) ^^^ (y.toBitVec &&& (1 : Int32).toBitVec)
      apply BitVec.eq_of_getLsbD_eq
      intro i hi
      simp only [BitVec.getLsbD_and, BitVec.getLsbD_xor]
      cases x.toBitVec.getLsbD i <;> cases y.toBitVec.getLsbD i <;> simp
    rw [e, ni_bit (by omega) (by omega), ni_bit (by omega) (by omega), ni_xor]
    congr 1
    cases t.testBit i <;> cases t.testBit j <;> rfl
  refine gX0_swapBits_0 ?_ ?_
  · intro h1
    rw [key] at h1
    have h2 : t.testBit i = t.testBit j := by
      by_cases z : t.testBit i = t.testBit j
      · exact z
      · rw [if_neg z] at h1; exact absurd h1 (by decide)
    rw [swapB, if_pos h2] at K
    exact K
  · intro h1
    rw [key] at h1
    have h2 : ¬ t.testBit i = t.testBit j := by
      intro z
      rw [if_pos z] at h1; exact absurd rfl h1
    rw [swapB, if_neg h2] at K
    rw [ni_shl i (by omega), ni_shl j (by omega), ni_or, ni_xor]
    exact K
theorem c_swap {l3 : Option Value} (c : pm_kd a = 0) (hs : campM s a m) (hi : i < 12) (hj : j < 12) (K : ∀ m', campM (swapC s i j) a m' → m'.1 a 4 = m.1 a 4 → m'.2.1 (a + 1) = m.2.1 (a + 1) → m'.2.1 (a + 3) = m.2.1 (a + 3) → ag (inC a) m m' → Q none m') : pm_G (d + 1) mX0_swap 0 [some (.ref a), some (.int (nI i)), some (.int (nI j)), l3] [] m Q := by
  obtain ⟨s1, s2, s3, s4, s5, t1, t2, t3, t4⟩ := hs
  have ii : vp_in (nI i) (m.2.1 (a + 2)).length := by rw [s1, t1]; exact ni_in hi (by omega)
  have ij : vp_in (nI j) (m.2.1 (a + 2)).length := by rw [s1, t1]; exact ni_in hj (by omega)
  have ci := ni_cl (i := i) (by omega)
  have cj := ni_cl (i := j) (by omega)
  refine gX0_swap_0 c (fun _ _ => ii) (fun v1 ev m1 e1 => ?_) (fun _ _ => ij) ii ?_
  · subst e1
    simp only [pm_rA, if_true, List.length_set]
    exact ij
  · intro v1 ev m1 e1 m2 e2
    have f2 : m2.1 = m.1 := by rw [e2, e1]; rfl
    rw [f2, s4]
    refine c_swapBits t3 hi hj ?_
    refine gX0_swap_36 c c ?_
    intro m3 e3
    have f3 : m3.1 a 8 = nI s.2.2.2.2 := by rw [e3, pm_rF, f2]; simp [s5]
    rw [f3]
    refine c_swapBits t4 hi hj ?_
    refine gX0_swap_49 c ?_
    intro m4 e4
    have ag4 : ag (inC a) m m4 := by
      rw [e4, e3, e2, e1]
      exact ag_F (ag_F (ag_A (ag_A (ag_refl _ _) ⟨by omega, by omega⟩) ⟨by omega, by omega⟩) ⟨by omega, by omega⟩) ⟨by omega, by omega⟩
    have A4 : m4.2.1 = m2.2.1 := by rw [e4, e3]; rfl
    have F4 : ∀ k, k ≠ 7 → k ≠ 8 → m4.1 a k = m.1 a k := by
      intro k h7 h8
      rw [e4, pm_rF, if_neg (fun z => h8 z.2), e3, pm_rF, if_neg (fun z => h7 z.2), f2]
    refine K m4 ⟨?_, ?_, ?_, ?_, ?_, swapC_ok ⟨t1, t2, t3, t4⟩ hi hj⟩ (F4 4 (by omega) (by omega)) ?_ ?_ ag4
    · rw [A4, e2, e1, pm_rA, if_pos rfl, pm_rA, if_pos rfl, ev, s1, ci, cj]
      rfl
    · rw [F4 5 (by omega) (by omega)]; exact s2
    · rw [F4 6 (by omega) (by omega)]; exact s3
    · rw [e4, pm_rF, if_neg (by omega), e3, pm_rF, if_pos ⟨rfl, rfl⟩]; rfl
    · rw [e4, pm_rF, if_pos ⟨rfl, rfl⟩]; rfl
    · rw [A4, e2, e1, pm_rA, if_neg (by omega), pm_rA, if_neg (by omega)]
    · rw [A4, e2, e1, pm_rA, if_neg (by omega), pm_rA, if_neg (by omega)]
/-- each tent one place on -/
def roundN : Nat → Cs → Cs
  | 0, s => s
  | i + 1, s => roundN i (swapC s (i + 1) i)
theorem l_goRound (c : pm_kd a = 0) : ∀ (i : Nat) (s : Cs) (m : pmMem), i < 12 → campM s a m → (∀ m', campM (roundN i s) a m' → m'.1 a 4 = m.1 a 4 → m'.2.1 (a + 1) = m.2.1 (a + 1) → m'.2.1 (a + 3) = m.2.1 (a + 3) → ag (inC a) m m' → Q none m') → pm_G (d + 2) mX0_goRound 3 [some (.ref a), some (.int (nI i))] [] m Q := by
  intro i
  induction i with
  | zero =>
    intro s m _ hs K
    exact gX0_goRound_3 c (fun _ => K m hs rfl rfl rfl (ag_refl _ _)) (fun h => absurd (by decide) h)
  | succ i ih =>
    intro s m hi hs K
    refine gX0_goRound_3 c (fun h => absurd ((ni_le (b := 0) (by omega) (by omega)).mp h) (by omega)) (fun _ => ?_)
    rw [show nI (i + 1) - 1 = nI i from nI_pred i]
    refine c_swap c hs hi (by omega) ?_
    intro m1 h1 h4 ha hb hag
    refine gX0_goRound_15 ?_
    rw [pk_m1]
    refine ih _ _ (by omega) h1 ?_
    intro m2 g1 g4 ga gb gag
    exact K m2 g1 (g4.trans h4) (ga.trans ha) (gb.trans hb) (ag_trans hag gag)
theorem c_goRound {l1 : Option Value} (c : pm_kd a = 0) (hs : campM s a m) (K : ∀ m', campM (roundN 11 s) a m' → m'.1 a 4 = m.1 a 4 → m'.2.1 (a + 1) = m.2.1 (a + 1) → m'.2.1 (a + 3) = m.2.1 (a + 3) → ag (inC a) m m' → Q none m') : pm_G (d + 2) mX0_goRound 0 [some (.ref a), l1] [] m Q :=
  gX0_goRound_0 (l_goRound c 11 s m (by omega) hs K)
theorem c_perform {cd : Nat} (c : pm_kd a = 0) (hL : landM L m) (hs : campM s a m) (hc : okDeed L cd) (hd : s.2.1 + 1 < 900) (K : ∀ m', campM (performC L s cd) a m' → m'.1 a 4 = m.1 a 4 → m'.2.1 (a + 1) = m.2.1 (a + 1) → m'.2.1 (a + 3) = m.2.1 (a + 3) → ag (inC a) m m' → Q none m') : pm_G (d + 3) mX0_perform 0 [some (.ref a), some (.int (nI cd))] [] m Q := by
  have h6 := hL.2.1
  have cl : cd < 344 := by rcases hc with h | h | h <;> omega
  have e200 : (nI cd < 200) ↔ cd < 200 := ni_lt (b := 200) (by omega) (by omega)
  have e100 : (nI cd < 100) ↔ cd < 100 := ni_lt (b := 100) (by omega) (by omega)
  refine gX0_perform_0 c ?_ ?_ ?_ <;> simp only [e200, e100]
  · intro h1 h2 m1 e1
    subst e1
    obtain ⟨s1, s2, s3, s4, s5, t1, t2, t3, t4⟩ := hs
    refine K _ ?_ (by simp [pm_rF]) rfl rfl (ag_F (ag_refl _ _) ⟨by omega, by omega⟩)
    rw [performC, if_neg (by omega), if_neg (by omega)]
    refine ⟨s1, ?_, ?_, ?_, ?_, t1, hd, t3, t4⟩
    · rw [pm_rF, if_pos ⟨rfl, rfl⟩, s2, nI_1]; rfl
    · rw [pm_rF, if_neg (by omega)]; exact s3
    · rw [pm_rF, if_neg (by omega)]; exact s4
    · rw [pm_rF, if_neg (by omega)]; exact s5
  · intro h1 h2
    have e : nI cd - 100 = nI (cd - 100) := pk_sub (b := 100) (by omega)
    rw [e]
    refine c_sayFrom c hL hs (by rcases hc with h | h | h <;> omega) ?_
    intro m1 g1 g4 gag ga
    refine gX0_perform_44 (K m1 ?_ g4 (by rw [ga]) (by rw [ga]) (ag_eqC gag))
    rw [performC, if_neg (by omega), if_pos (by omega)]
    exact g1
  · intro h1
    have e : nI cd - 200 = nI (cd - 200) := pk_sub (b := 200) (by omega)
    have e2 : nI (cd - 200) / 12 = nI ((cd - 200) / 12) := pk_div (d := 12) (by omega) (by omega) (by omega)
    have e3 : nI (cd - 200) - nI (cd - 200) / 12 * 12 = nI ((cd - 200) % 12) := pk_rem (d := 12) (by omega) (by omega) (by omega)
    rw [e, e3, e2]
    refine c_swap c hs (by omega) (by omega) ?_
    intro m1 g1 g4 ga gb gag
    refine gX0_perform_27 (K m1 ?_ g4 ga gb gag)
    rw [performC, if_pos (by omega)]
    exact g1
end CAMP2

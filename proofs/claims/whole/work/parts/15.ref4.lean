/-- the reference's scratch: what is given, the marks -/
def asideG (g : List Int32) (mk : Nat → Nat) (m : pmMem) : Prop := m.2.1 79 = g ∧ g.length = 12 ∧ m.2.1 80 = lst12 (fun i => nI (mk i)) ∧ ∀ i, mk i < 3
def scrR (c : Nat) : Prop := c = 79 ∨ c = 80
/-- only rows of S have changed -/
def agA (S : Nat → Prop) (m m' : pmMem) : Prop := m'.1 = m.1 ∧ m'.2.2 = m.2.2 ∧ ∀ c, ¬ S c → m'.2.1 c = m.2.1 c
theorem agA_refl (S : Nat → Prop) (m : pmMem) : agA S m m := ⟨rfl, rfl, fun _ _ => rfl⟩
theorem agA_trans {S : Nat → Prop} {m m1 m2 : pmMem} (h1 : agA S m m1) (h2 : agA S m1 m2) : agA S m m2 := ⟨h2.1.trans h1.1, h2.2.1.trans h1.2.1, fun c hc => (h2.2.2 c hc).trans (h1.2.2 c hc)⟩
theorem agA_A {S : Nat → Prop} {m m1 : pmMem} {c : Nat} {l : List Int32} (h : agA S m m1) (hc : S c) : agA S m (pm_setA m1 c l) := ⟨h.1, h.2.1, fun c' hc' => by
  have hne : c' ≠ c := fun e => hc' (e ▸ hc)
  show (if c' = c then _ else m1.2.1 c') = _
  rw [if_neg hne]
  exact h.2.2 c' hc'⟩
theorem agA.ag {S : Nat → Prop} {m m' : pmMem} (h : agA S m m') : ag S m m' := fun c hc => ⟨by rw [h.1], h.2.2 c hc, by rw [h.2.1]⟩
theorem agA_mono {S S' : Nat → Prop} {m m1 : pmMem} (hS : ∀ c, S c → S' c) (h1 : agA S m m1) : agA S' m m1 := ⟨h1.1, h1.2.1, fun c hc => h1.2.2 c (fun z => hc (hS c z))⟩
theorem landR_scr {L : Ld} {m m' : pmMem} (h : landR L m) (ha : agA scrR m m') : landR L m' :=
  landR_ag h ha.ag (by rw [ha.1]) (fun c h1 h2 z => by unfold scrR at z; omega)
section REF4
variable {d : Nat} {m : pmMem} {Q : Option Value → pmMem → Prop} {L : Ld} {s : Cs} {g : List Int32} {mk : Nat → Nat}
theorem n12 {i : Nat} (h : i < 12) : ¬ (12 : Int32) ≤ nI i := fun z => by
  have := (ni_le (a := 12) (by omega) (by omega)).mp z
  omega
/-- now and state come aside -/
theorem c7_aside {l1 : Option Value} (hn : m.2.1 77 = g) (hgl : g.length = 12) (hm : m.2.1 78 = lst12 (fun i => nI (mk i))) (hmk : ∀ i, mk i < 3) (h79 : (m.2.1 79).length = 12) (h80 : (m.2.1 80).length = 12) (K : ∀ m', asideG g mk m' → agA scrR m m' → Q none m') : pm_G d mX7_aside 0 [some (.ref 65), l1] [] m Q := by
  have loop : ∀ (n i : Nat) (m1 : pmMem), i + n = 12 → agA scrR m m1 → m1.2.1 79 = lst12 (fun j => if j < i then g.getD j 0 else (m.2.1 79).getD j 0) → m1.2.1 80 = lst12 (fun j => if j < i then nI (mk j) else (m.2.1 80).getD j 0) → pm_G d mX7_aside 2 [some (.ref 65), some (.int (nI i))] [] m1 Q := by
    intro n
    induction n with
    | zero =>
      intro i m1 hi hag h1 h2
      have h12 : i = 12 := by omega
      subst h12
      have hk : asideG g mk m1 := ⟨by rw [h1, lst_of hgl]; exact lst_congr (fun j hj => by rw [if_pos hj, lst_get hj]), hgl, by rw [h2]; exact lst_congr (fun j hj => by rw [if_pos hj]), hmk⟩
      exact gX7_aside_2 (fun h => absurd (by decide) h) (fun h => absurd (by decide) h) (fun h => absurd (by decide) h) (fun h => absurd (by decide) h) (fun _ => K m1 hk hag) (fun h => absurd (by decide) h)
    | succ n ih =>
      intro i m1 hi hag h1 h2
      have hi12 : i < 12 := by omega
      have hcl := ni_cl (i := i) (by omega)
      have e77 : m1.2.1 77 = g := by rw [hag.2.2 77 (by unfold scrR; omega)]; exact hn
      have e78 : m1.2.1 78 = lst12 (fun i => nI (mk i)) := by rw [hag.2.2 78 (by unfold scrR; omega)]; exact hm
      refine gX7_aside_2 (fun _ => ?_) (fun _ m2 e2 => ?_) (fun _ m2 e2 => ?_) (fun _ => ?_) (fun h => absurd h (n12 hi12)) (fun _ m2 e2 m3 e3 => ?_)
      · rw [h1, lst_len]; exact ni_in hi12 (by omega)
      · rw [e2, pm_rA, if_neg (by omega), h2, lst_len]; exact ni_in hi12 (by omega)
      · rw [e2, pm_rA, if_neg (by omega), e78, lst_len]; exact ni_in hi12 (by omega)
      · rw [e77, hgl]; exact ni_in hi12 (by omega)
      · rw [nI_1]
        have f78 : m2.2.1 78 = lst12 (fun i => nI (mk i)) := by rw [e2, pm_rA, if_neg (by omega)]; exact e78
        have f80 : m2.2.1 80 = m1.2.1 80 := by rw [e2, pm_rA, if_neg (by omega)]
        refine ih (i + 1) m3 (by omega) ?_ ?_ ?_
        · rw [e3, e2]; exact agA_A (agA_A hag (Or.inl rfl)) (Or.inr rfl)
        · rw [e3, pm_rA, if_neg (by omega), e2, pm_rA, if_pos rfl, hcl, e77, h1, lst_set hi12]
          refine lst_congr (fun j hj => ?_)
          by_cases e : j = i
          · rw [if_pos e, e, if_pos (by omega)]
          · rw [if_neg e]
            by_cases h : j < i
            · rw [if_pos h, if_pos (by omega)]
            · rw [if_neg h, if_neg (by omega)]
        · rw [e3, pm_rA, if_pos rfl, hcl, f78, f80, h2, lst_get hi12, lst_set hi12]
          refine lst_congr (fun j hj => ?_)
          by_cases e : j = i
          · rw [if_pos e, e, if_pos (by omega)]
          · rw [if_neg e]
            by_cases h : j < i
            · rw [if_pos h, if_pos (by omega)]
            · rw [if_neg h, if_neg (by omega)]
  refine gX7_aside_0 (loop 12 0 m rfl (agA_refl _ _) ?_ ?_)
  · rw [lst_of h79]; exact lst_congr (fun j hj => by rw [if_neg (by omega), lst_get hj])
  · rw [lst_of h80]; exact lst_congr (fun j hj => by rw [if_neg (by omega), lst_get hj])
/-- who is cursed, aside -/
def curS (mk : Nat → Nat) : Nat := mkS (fun i => decide (mk i = 2)) 12
theorem curS_lt (mk : Nat → Nat) : curS mk < 4096 := mkS_lt _ 12
theorem c7_cursedAside {l1 l2 : Option Value} (h : asideG g mk m) (K : Q (some (.int (nI (curS mk)))) m) : pm_G d mX7_cursedAside 0 [some (.ref 65), l1, l2] [] m Q := by
  obtain ⟨h1, h2, h3, h4⟩ := h
  have loop : ∀ (n i : Nat), i + n = 12 → pm_G d mX7_cursedAside 4 [some (.ref 65), some (.int (nI (mkS (fun i => decide (mk i = 2)) i))), some (.int (nI i))] [] m Q := by
    intro n
    induction n with
    | zero =>
      intro i hi
      have h12 : i = 12 := by omega
      subst h12
      exact gX7_cursedAside_4 (fun h => absurd (by decide) h) (fun _ => K) (fun h => absurd (by decide) h) (fun h => absurd (by decide) h)
    | succ n ih =>
      intro i hi
      have hi12 : i < 12 := by omega
      have hcl := ni_cl (i := i) (by omega)
      have nx := ih (i + 1) (by omega)
      have lt := mkS_lt (fun i => decide (mk i = 2)) i
      have m3 := h4 i
      refine gX7_cursedAside_4 (fun _ => ?_) (fun h => absurd h (n12 hi12)) ?_ ?_
      · rw [h3, lst_len]; exact ni_in hi12 (by omega)
      · intro _ hne
        rw [hcl, h3, lst_get hi12] at hne
        have hne := ni_ne (n := 2) hne
        rw [nI_1, show (0 : Int32) = nI 0 from rfl, ni_or]
        simp only [mkS, hne] at nx
        simpa using nx
      · intro _ he
        rw [hcl, h3, lst_get hi12] at he
        have he : mk i = 2 := (ni_eq (by omega) (by omega)).mp he
        rw [nI_1, ni_shl i (by omega), ni_or, or_add lt]
        simp only [mkS, he] at nx
        simpa using nx
  exact gX7_cursedAside_0 (loop 12 0 rfl)
/-- a word is said from a hill, aside -/
def sayK (sn w : Nat) (mk : Nat → Nat) (i : Nat) : Nat := if sn.testBit i = true ∧ mk i = 0 then w else mk i
theorem c7_say {h dy w : Nat} {l4 l5 : Option Value} (hL : landR L m) (ha : asideG g mk m) (hh : h < L.1) (hd : dy < 1000) (hw : w < 3) (K : ∀ m', asideG g (sayK (seenS (L.2 h).1 (L.2 h).2.1 (L.2 h).2.2 g dy) w mk) m' → agA scrR m m' → Q none m') : pm_G (d + 3) mX7_say 0 [some (.ref 65), some (.int (nI h)), some (.int (nI dy)), some (.int (nI w)), l4, l5] [] m Q := by
  obtain ⟨h1, h2, h3, h4⟩ := ha
  refine gX7_say_0 (c7_seenFrom hL h1 h2 hh hd (gX7_say_6 ?_))
  have sl := seenS_lt (L.2 h).1 (L.2 h).2.1 (L.2 h).2.2 g dy
  generalize seenS (L.2 h).1 (L.2 h).2.1 (L.2 h).2.2 g dy = sn at K sl ⊢
  have loop : ∀ (n i : Nat) (m1 : pmMem), i + n = 12 → agA scrR m m1 → m1.2.1 79 = g → m1.2.1 80 = lst12 (fun j => nI (if j < i then sayK sn w mk j else mk j)) → pm_G (d + 3) mX7_say 11 [some (.ref 65), some (.int (nI h)), some (.int (nI dy)), some (.int (nI w)), some (.int (nI sn)), some (.int (nI i))] [] m1 Q := by
    intro n
    induction n with
    | zero =>
      intro i m1 hi hag e79 e80
      have h12 : i = 12 := by omega
      subst h12
      have hk : asideG g (sayK sn w mk) m1 := ⟨e79, h2, by rw [e80]; exact lst_congr (fun j hj => by rw [if_pos hj]), fun i => by unfold sayK; split; exact hw; exact h4 i⟩
      exact gX7_say_11 (fun _ => K m1 hk hag) (fun h => absurd (by decide) h)
    | succ n ih =>
      intro i m1 hi hag e79 e80
      have hi12 : i < 12 := by omega
      have hcl := ni_cl (i := i) (by omega)
      have hin : vp_in (nI i) (m1.2.1 80).length := by rw [e80, lst_len]; exact ni_in hi12 (by omega)
      have hget : (m1.2.1 80).getD (nI i).toNatClampNeg 0 = nI (mk i) := by rw [hcl, e80, lst_get hi12, if_neg (by omega)]
      have step : ∀ m2 : pmMem, m2 = pm_setA m1 80 ((m1.2.1 80).set (nI i).toNatClampNeg (nI (sayK sn w mk i))) → pm_G (d + 3) mX7_say 11 [some (.ref 65), some (.int (nI h)), some (.int (nI dy)), some (.int (nI w)), some (.int (nI sn)), some (.int (nI i + 1))] [] m2 Q := by
        intro m2 e2
        rw [nI_1]
        refine ih (i + 1) m2 (by omega) ?_ ?_ ?_
        · rw [e2]; exact agA_A hag (Or.inr rfl)
        · rw [e2, pm_rA, if_neg (by omega)]; exact e79
        · rw [e2, pm_rA, if_pos rfl, hcl, e80, lst_set hi12]
          refine lst_congr (fun j hj => ?_)
          by_cases e : j = i
          · rw [if_pos e, e, if_pos (by omega)]
          · rw [if_neg e]
            by_cases h : j < i
            · rw [if_pos h, if_pos (by omega)]
            · rw [if_neg h, if_neg (by omega)]
      refine gX7_say_11 (fun h => absurd h (n12 hi12)) (fun _ => c7_has sl hi12 ?_)
      refine gX7_say_31 (fun _ => hin) (fun _ => hin) (fun _ _ => hin) (fun _ _ => hin) (fun _ _ => hin) (fun _ => hin) ?_ ?_ ?_
      · intro hz m2 e2
        have hb : ¬ sn.testBit i = true := fun z => by rw [if_pos z] at hz; exact absurd hz (by decide)
        rw [hget] at e2
        refine step m2 ?_
        rw [e2, sayK, if_neg (fun z => hb z.1)]
      · intro hz hne m2 e2
        rw [hget] at hne e2
        have hne := ni_ne (n := 0) hne
        refine step m2 ?_
        rw [e2, sayK, if_neg (fun z => hne z.2)]
      · intro hz he m2 e2
        rw [hget] at he
        have m3 := h4 i
        have he : mk i = 0 := (ni_eq (by omega) (by omega)).mp he
        have hb : sn.testBit i = true := by
          by_cases z : sn.testBit i = true
          · exact z
          · rw [if_neg z] at hz; exact absurd rfl hz
        refine step m2 ?_
        rw [e2, sayK, if_pos ⟨hb, he⟩]
  refine loop 12 0 m rfl (agA_refl _ _) h1 ?_
  rw [h3]
  exact lst_congr (fun j _ => by rw [if_neg (by omega)])
/-- two tents change places, aside -/
def swK (i j : Nat) (mk : Nat → Nat) (t : Nat) : Nat := mk (if t = i then j else if t = j then i else t)
theorem c7_exchange {i j : Nat} {l3 l4 : Option Value} (ha : asideG g mk m) (hi : i < 12) (hj : j < 12) (K : ∀ m', asideG (swapG g i j) (swK i j mk) m' → agA scrR m m' → Q none m') : pm_G d mX7_exchange 0 [some (.ref 65), some (.int (nI i)), some (.int (nI j)), l3, l4] [] m Q := by
  obtain ⟨h1, h2, h3, h4⟩ := ha
  have ci := ni_cl (i := i) (by omega)
  have cj := ni_cl (i := j) (by omega)
  have ii : vp_in (nI i) 12 := ni_in hi (by omega)
  have ij : vp_in (nI j) 12 := ni_in hj (by omega)
  refine gX7_exchange_0 (by rw [h1, h2]; exact ii) ?_ ?_ ?_ ?_ ?_ (by rw [h1, h2]; exact ij) ?_
  · intro m1 e1
    rw [e1, pm_rA, if_pos rfl, List.length_set, h1, h2]; exact ij
  · intro m1 e1 m2 e2 v1 ev
    rw [e2, pm_rA, if_neg (by omega), e1, pm_rA, if_neg (by omega), h3, lst_len]; exact ii
  · intro m1 e1 m2 e2 v1 ev m3 e3
    rw [e3, pm_rA, if_pos rfl, List.length_set, e2, pm_rA, if_neg (by omega), e1, pm_rA, if_neg (by omega), h3, lst_len]; exact ij
  · intro m1 e1 m2 e2 v1 ev
    rw [e2, pm_rA, if_neg (by omega), e1, pm_rA, if_neg (by omega), h3, lst_len]; exact ij
  · intro m1 e1 m2 e2
    rw [e2, pm_rA, if_neg (by omega), e1, pm_rA, if_neg (by omega), h3, lst_len]; exact ii
  · intro m1 e1 m2 e2 v1 ev m3 e3 m4 e4
    have f80 : m2.2.1 80 = lst12 (fun i => nI (mk i)) := by rw [e2, pm_rA, if_neg (by omega), e1, pm_rA, if_neg (by omega)]; exact h3
    refine K m4 ⟨?_, (swapG_len _ _ _).trans h2, ?_, fun t => h4 _⟩ ?_
    · rw [e4, pm_rA, if_neg (by omega), e3, pm_rA, if_neg (by omega), e2, pm_rA, if_pos rfl, e1, pm_rA, if_pos rfl, ci, cj, h1]
      rfl
    · rw [e4, pm_rA, if_pos rfl, e3, pm_rA, if_pos rfl, ev, ci, cj, f80, lst_get hi, lst_get hj, lst_set hi, lst_set hj]
      refine lst_congr (fun t ht => ?_)
      unfold swK
      by_cases h : t = j
      · rw [if_pos h]
        by_cases e : t = i
        · rw [if_pos e, ← h, e]
        · rw [if_neg e, if_pos h]
      · rw [if_neg h]
        by_cases e : t = i
        · rw [if_pos e, if_pos e]
        · rw [if_neg e, if_neg e, if_neg h]
    · rw [e4, e3, e2, e1]
      exact agA_A (agA_A (agA_A (agA_A (agA_refl _ _) (Or.inl rfl)) (Or.inl rfl)) (Or.inr rfl)) (Or.inr rfl)
theorem c7_feeOf {w : Nat} (hw : w < 3) (K : Q (some (.int (nI (feeN w)))) m) : pm_G d mX7_feeOf 0 [some (.int (nI w))] [] m Q := by
  refine gX7_feeOf_0 ?_ ?_ ?_
  · intro h1 h2
    have h1 := ni_ne (n := 2) h1
    have h2 := ni_ne (n := 0) h2
    rw [show w = 1 by omega] at K
    exact K
  · intro h1 h2
    have h2 : w = 0 := (ni_eq (by omega) (by omega)).mp h2
    rw [h2] at K
    exact K
  · intro h1
    have h1 : w = 2 := (ni_eq (by omega) (by omega)).mp h1
    rw [h1] at K
    exact K
end REF4

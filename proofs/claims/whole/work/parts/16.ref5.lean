def encR (c : Nat) : Nat := if 100 ≤ c then c - 100 else 6
def campR (p : List Int32) (ds : List Nat) (m : pmMem) : Prop := m.2.1 73 = p ∧ p.length = 12 ∧ m.1 65 10 = nI ds.length ∧ ds.length ≤ 40 ∧ (m.2.1 74).length = 40 ∧ (m.2.1 74).take ds.length = ds.map (fun c => nI (encR c))
def nowR (s : Cs) (m : pmMem) : Prop := m.2.1 77 = s.1 ∧ m.2.1 78 = lst12 (fun i => nI (fateC s i)) ∧ m.1 65 15 = nI s.2.1 ∧ m.1 65 16 = s.2.2.1 ∧ csOk s
def lenR (m : pmMem) : Prop := (m.2.1 77).length = 12 ∧ (m.2.1 78).length = 12 ∧ (m.2.1 79).length = 12 ∧ (m.2.1 80).length = 12
def gtS (c : Nat) : Prop := c = 65 ∨ (77 ≤ c ∧ c ≤ 80)
theorem gt_scr {m m' : pmMem} (h : agA scrR m m') : ag gtS m m' := ag_mono (fun c z => by unfold scrR at z; unfold gtS; omega) h.ag
theorem sayK_fate (L : Ld) (s : Cs) (h : Nat) : sayK (seenC L s h) (wordC L s h) (fateC s) = fateC (sayC L s h) := by
  funext i
  rw [fate_say]
  rfl
theorem swK_fate (s : Cs) (i j : Nat) : swK i j (fateC s) = fateC (swapC s i j) := by
  funext t
  rw [fate_swap]
  rfl
section REF5
variable {d : Nat} {m : pmMem} {Q : Option Value → pmMem → Prop} {L : Ld} {s : Cs} {g : List Int32} {mk : Nat → Nat} {p : List Int32} {ds : List Nat}
theorem c7_goThrough {l1 l2 l3 : Option Value} (hL : landR L m) (hc : campR p ds m) (hl : lenR m) (hok : ∀ x ∈ ds, okDeed L x) (K : ∀ m', nowR (replay L p ds) m' → asideG (replay L p ds).1 (fateC (replay L p ds)) m' → lenR m' → (∀ k, k ≠ 15 → k ≠ 16 → m'.1 65 k = m.1 65 k) → m'.2.2 = m.2.2 → ag gtS m m' → Q none m') : pm_G (d + 5) mX7_goThrough 0 [some (.ref 65), l1, l2, l3] [] m Q := by
  obtain ⟨c1, c2, c3, c4, c5, c6⟩ := hc
  obtain ⟨l77, l78, l79, l80⟩ := hl
  have hL6 := hL.2.1
  -- the last loop: what came aside is now
  have loop3 : ∀ (n i : Nat) (m1 : pmMem) (l2 l3 : Option Value), i + n = 12 → asideG (replay L p ds).1 (fateC (replay L p ds)) m1 → m1.1 65 15 = nI (replay L p ds).2.1 → m1.1 65 16 = (replay L p ds).2.2.1 → m1.2.1 77 = lst12 (fun j => if j < i then (replay L p ds).1.getD j 0 else (m.2.1 77).getD j 0) → m1.2.1 78 = lst12 (fun j => if j < i then nI (fateC (replay L p ds) j) else (m.2.1 78).getD j 0) → (∀ k, k ≠ 15 → k ≠ 16 → m1.1 65 k = m.1 65 k) → m1.2.2 = m.2.2 → ag gtS m m1 → pm_G (d + 5) mX7_goThrough 147 [some (.ref 65), some (.int (nI i)), l2, l3] [] m1 Q := by
    intro n
    induction n with
    | zero =>
      intro i m1 l2 l3 hi ha f15 f16 e77 e78 hF hLg hag
      have h12 : i = 12 := by omega
      subst h12
      have ha0 := ha
      obtain ⟨a1, a2, a3, a4⟩ := ha
      have ok := replay_ok hL6 c2 ds c4 hok
      refine gX7_goThrough_147 (fun h => absurd (by decide) h) (fun h => absurd (by decide) h) (fun h => absurd (by decide) h) (fun h => absurd (by decide) h) (fun _ => ?_) (fun h => absurd (by decide) h)
      refine K m1 ⟨?_, ?_, f15, f16, ok⟩ ha0 ⟨by rw [e77, lst_len], by rw [e78, lst_len], by rw [a1]; exact a2, by rw [a3, lst_len]⟩ hF hLg hag
      · rw [e77, lst_of a2]; exact lst_congr (fun j hj => by rw [if_pos hj, lst_get hj])
      · rw [e78]; exact lst_congr (fun j hj => by rw [if_pos hj])
    | succ n ih =>
      intro i m1 l2 l3 hi ha f15 f16 e77 e78 hF hLg hag
      have hi12 : i < 12 := by omega
      have hcl := ni_cl (i := i) (by omega)
      have ha' := ha
      obtain ⟨a1, a2, a3, a4⟩ := ha
      refine gX7_goThrough_147 (fun _ => ?_) (fun _ m2 e2 => ?_) (fun _ m2 e2 => ?_) (fun _ => ?_) (fun h => absurd h (n12 hi12)) (fun _ m2 e2 m3 e3 => ?_)
      · rw [e77, lst_len]; exact ni_in hi12 (by omega)
      · rw [e2, pm_rA, if_neg (by omega), e78, lst_len]; exact ni_in hi12 (by omega)
      · rw [e2, pm_rA, if_neg (by omega), a3, lst_len]; exact ni_in hi12 (by omega)
      · rw [a1, a2]; exact ni_in hi12 (by omega)
      · rw [nI_1]
        have x80 : m2.2.1 80 = m1.2.1 80 := by rw [e2, pm_rA, if_neg (by omega)]
        have x78 : m2.2.1 78 = m1.2.1 78 := by rw [e2, pm_rA, if_neg (by omega)]
        have F3 : m3.1 = m1.1 := by rw [e3, e2]; rfl
        refine ih (i + 1) m3 _ _ (by omega) ⟨?_, a2, ?_, a4⟩ (by rw [F3]; exact f15) (by rw [F3]; exact f16) ?_ ?_ (by rw [F3]; exact hF) (by rw [e3, e2]; exact hLg) ?_
        · rw [e3, pm_rA, if_neg (by omega), e2, pm_rA, if_neg (by omega)]; exact a1
        · rw [e3, pm_rA, if_neg (by omega), e2, pm_rA, if_neg (by omega)]; exact a3
        · rw [e3, pm_rA, if_neg (by omega), e2, pm_rA, if_pos rfl, hcl, a1, e77, lst_set hi12]
          refine lst_congr (fun j hj => ?_)
          by_cases e : j = i
          · rw [if_pos e, e, if_pos (by omega)]
          · rw [if_neg e]
            by_cases h : j < i
            · rw [if_pos h, if_pos (by omega)]
            · rw [if_neg h, if_neg (by omega)]
        · rw [e3, pm_rA, if_pos rfl, hcl, x80, x78, a3, e78, lst_get hi12, lst_set hi12]
          refine lst_congr (fun j hj => ?_)
          by_cases e : j = i
          · rw [if_pos e, e, if_pos (by omega)]
          · rw [if_neg e]
            by_cases h : j < i
            · rw [if_pos h, if_pos (by omega)]
            · rw [if_neg h, if_neg (by omega)]
        · rw [e3, e2]; exact ag_A (ag_A hag (by unfold gtS; omega)) (by unfold gtS; omega)
  -- the deeds
  have loop2 : ∀ (n i : Nat) (m1 : pmMem) (l2 l3 : Option Value), i + n = ds.length → asideG (replay L p (ds.take i)).1 (fateC (replay L p (ds.take i))) m1 → m1.1 65 15 = nI (replay L p (ds.take i)).2.1 → m1.1 65 16 = (replay L p (ds.take i)).2.2.1 → m1.2.1 77 = m.2.1 77 → m1.2.1 78 = m.2.1 78 → (∀ k, k ≠ 15 → k ≠ 16 → m1.1 65 k = m.1 65 k) → m1.2.2 = m.2.2 → ag gtS m m1 → pm_G (d + 5) mX7_goThrough 45 [some (.ref 65), some (.int (nI i)), l2, l3] [] m1 Q := by
    intro n
    induction n with
    | zero =>
      intro i m1 l2 l3 hi ha f15 f16 e77 e78 hF hLg hag
      have hin : i = ds.length := by omega
      subst hin
      rw [List.take_length] at ha f15 f16
      have le : m1.1 65 10 ≤ nI ds.length := by rw [hF 10 (by omega) (by omega), c3]; exact Int32.le_refl _
      refine gX7_goThrough_45 (fun h => absurd le h) (fun _ => ?_) (fun h => absurd le h) (fun h => absurd le h) (fun h => absurd le h)
      refine loop3 12 0 m1 _ _ rfl ha f15 f16 ?_ ?_ hF hLg hag
      · rw [e77, lst_of l77]; exact lst_congr (fun j hj => by rw [if_neg (by omega), lst_get hj])
      · rw [e78, lst_of l78]; exact lst_congr (fun j hj => by rw [if_neg (by omega), lst_get hj])
    | succ n ih =>
      intro i m1 l2 l3 hi ha f15 f16 e77 e78 hF hLg hag
      have hlt : i < ds.length := by omega
      have hcl := ni_cl (i := i) (by omega)
      have n1 : ¬ m1.1 65 10 ≤ nI i := by
        rw [hF 10 (by omega) (by omega), c3]
        intro z
        have := (ni_le (by omega) (by omega)).mp z
        omega
      have e74 : m1.2.1 74 = m.2.1 74 := (hag 74 (by unfold gtS; omega)).2.1
      have hget : (m1.2.1 74).getD (nI i).toNatClampNeg 0 = nI (encR (ds.getD i 0)) := by
        rw [e74, hcl, List.getD_eq_getElem?_getD, List.getD_eq_getElem?_getD]
        have e := congrArg (fun l => l[i]?) c6
        simp only [List.getElem?_take_of_lt hlt, List.getElem?_map] at e
        rw [e]
        simp [hlt]
      have hmem : ds.getD i 0 ∈ ds := by
        rw [List.getD_eq_getElem?_getD, List.getElem?_eq_getElem hlt]
        exact List.getElem_mem _
      have okc := hok _ hmem
      have etake : ds.take (i + 1) = ds.take i ++ [ds.getD i 0] := by
        rw [List.take_add_one, List.getD_eq_getElem?_getD, List.getElem?_eq_getElem hlt]
        rfl
      have hday := replay_day L p (ds.take i)
      have hlen : (ds.take i).length = i := by rw [List.length_take]; omega
      have hLm : landR L m1 := landR_ag hL hag (hF 4 (by omega) (by omega)) (fun c h1 h2 z => by unfold gtS at z; omega)
      have nxt := ih (i + 1)
      rw [etake, replay_snoc] at nxt
      generalize ds.getD i 0 = cd at hget okc nxt
      generalize replay L p (ds.take i) = s at ha f15 f16 nxt hday
      have hdy : s.2.1 < 1000 := by omega
      have cl : cd < 344 := by rcases okc with h | h | h <;> omega
      have el : encR cd < 244 := by unfold encR; split <;> omega
      have e6 : (nI (encR cd) = 6) ↔ encR cd = 6 := ni_eq (b := 6) (by omega) (by omega)
      have e100 : (nI (encR cd) < 100) ↔ encR cd < 100 := ni_lt (b := 100) (by omega) (by omega)
      refine gX7_goThrough_45 (fun _ => ?_) (fun h => absurd h n1) ?_ ?_ ?_ <;> try simp only [hget, e6, e100]
      · rw [e74, c5]; exact ni_in (by omega) (by omega)
      · intro _ h6 h100
        have hh : encR cd = cd - 100 ∧ 100 ≤ cd ∧ cd < 100 + L.1 := by
          unfold encR at h6 h100 ⊢
          by_cases z : 100 ≤ cd
          · rw [if_pos z] at h6 h100 ⊢
            rcases okc with h | h | h <;> omega
          · rw [if_neg z] at h6; exact absurd rfl h6
        obtain ⟨hh1, hh2, hh3⟩ := hh
        rw [hh1, f15]
        refine c7_wordFrom hLm ha.1 ha.2.1 (by omega) hdy ?_
        refine gX7_goThrough_115 (c7_feeOf (wordI_lt _) ?_)
        refine gX7_goThrough_125 ?_
        intro m2 e2
        have F2 : ∀ k, k ≠ 16 → m2.1 65 k = m1.1 65 k := fun k hk => by rw [e2, pm_rF, if_neg (fun z => hk z.2)]
        rw [F2 15 (by omega), f15]
        have ha2 : asideG s.1 (fateC s) m2 := by rw [e2]; exact ha
        have ag2 : ag gtS m m2 := by rw [e2]; exact ag_F hag (Or.inl rfl)
        have hL2 : landR L m2 := landR_ag hL ag2 ((F2 4 (by omega)).trans (hF 4 (by omega) (by omega))) (fun c h1 h2 z => by unfold gtS at z; omega)
        refine c7_say hL2 ha2 (show cd - 100 < L.1 by omega) hdy (wordI_lt _) ?_
        intro m3 ha3 ag3
        refine gX7_goThrough_139 ?_
        rw [nI_1]
        have F3 : m3.1 65 = m2.1 65 := by rw [ag3.1]
        have es : performC L s cd = sayC L s (cd - 100) := by rw [performC, if_neg (by omega), if_pos hh2]
        rw [es] at nxt
        refine nxt m3 _ _ (by omega) ?_ ?_ ?_ ?_ ?_ ?_ ?_ ?_
        · rw [← sayK_fate]; exact ha3
        · rw [F3, F2 15 (by omega)]; exact f15
        · rw [F3, e2, pm_rF, if_pos ⟨rfl, rfl⟩, f16]; rfl
        · rw [ag3.2.2 77 (by unfold scrR; omega), e2]; exact e77
        · rw [ag3.2.2 78 (by unfold scrR; omega), e2]; exact e78
        · intro k h1 h2; rw [F3, F2 k h2]; exact hF k h1 h2
        · rw [ag3.2.1, e2]; exact hLg
        · exact ag_trans ag2 (gt_scr ag3)
      · intro _ h6 h100
        have hh : encR cd = cd - 100 ∧ 200 ≤ cd := by
          unfold encR at h6 h100 ⊢
          by_cases z : 100 ≤ cd
          · rw [if_pos z] at h6 h100 ⊢
            omega
          · rw [if_neg z] at h6; exact absurd rfl h6
        obtain ⟨hh1, hh2⟩ := hh
        rw [hh1]
        have q1 : nI (cd - 100) - 100 = nI (cd - 200) := (pk_sub (a := cd - 100) (b := 100) (by omega)).trans (by rw [show cd - 100 - 100 = cd - 200 by omega])
        have q2 : nI (cd - 200) / 12 = nI ((cd - 200) / 12) := pk_div (d := 12) (by omega) (by omega) (by omega)
        have q3 : nI (cd - 200) - nI (cd - 200) / 12 * 12 = nI ((cd - 200) % 12) := pk_rem (d := 12) (by omega) (by omega) (by omega)
        rw [q1, q3, q2]
        refine c7_exchange ha (by omega) (by omega) ?_
        intro m3 ha3 ag3
        refine gX7_goThrough_103 ?_
        rw [nI_1]
        have F3 : m3.1 65 = m1.1 65 := by rw [ag3.1]
        have es : performC L s cd = swapC s ((cd - 200) / 12) ((cd - 200) % 12) := by rw [performC, if_pos hh2]
        rw [es] at nxt
        refine nxt m3 _ _ (by omega) ?_ ?_ ?_ ?_ ?_ ?_ ?_ ?_
        · rw [← swK_fate]; exact ha3
        · rw [F3]; exact f15
        · rw [F3]; exact f16
        · rw [ag3.2.2 77 (by unfold scrR; omega)]; exact e77
        · rw [ag3.2.2 78 (by unfold scrR; omega)]; exact e78
        · intro k h1 h2; rw [F3]; exact hF k h1 h2
        · rw [ag3.2.1]; exact hLg
        · exact ag_trans hag (gt_scr ag3)
      · intro _ h6 m2 e2
        rw [nI_1]
        have hh : cd < 100 := by
          unfold encR at h6
          by_cases z : 100 ≤ cd
          · rw [if_pos z] at h6
            rcases okc with h | h | h <;> omega
          · omega
        have es : performC L s cd = dayC s := by rw [performC, if_neg (by omega), if_neg (by omega)]
        rw [es] at nxt
        refine nxt m2 _ _ (by omega) ?_ ?_ ?_ ?_ ?_ ?_ ?_ ?_
        · rw [e2]; exact ha
        · rw [e2, pm_rF, if_pos ⟨rfl, rfl⟩, f15, nI_1]; rfl
        · rw [e2, pm_rF, if_neg (by omega), f16]; rfl
        · rw [e2]; exact e77
        · rw [e2]; exact e78
        · intro k h1 h2; rw [e2, pm_rF, if_neg (fun z => h1 z.2)]; exact hF k h1 h2
        · rw [e2]; exact hLg
        · rw [e2]; exact ag_F hag (Or.inl rfl)
  -- the start
  have loop1 : ∀ (n i : Nat) (m1 : pmMem) (l2 l3 : Option Value), i + n = 12 → m1.2.1 79 = lst12 (fun j => if j < i then p.getD j 0 else (m.2.1 79).getD j 0) → m1.2.1 80 = lst12 (fun j => if j < i then 0 else (m.2.1 80).getD j 0) → m1.1 65 15 = 0 → m1.1 65 16 = 0 → m1.2.1 77 = m.2.1 77 → m1.2.1 78 = m.2.1 78 → (∀ k, k ≠ 15 → k ≠ 16 → m1.1 65 k = m.1 65 k) → m1.2.2 = m.2.2 → ag gtS m m1 → pm_G (d + 5) mX7_goThrough 12 [some (.ref 65), some (.int (nI i)), l2, l3] [] m1 Q := by
    intro n
    induction n with
    | zero =>
      intro i m1 l2 l3 hi h1 h2 f15 f16 e77 e78 hF hLg hag
      have h12 : i = 12 := by omega
      subst h12
      refine gX7_goThrough_12 (fun h => absurd (by decide) h) (fun h => absurd (by decide) h) (fun h => absurd (by decide) h) (fun _ => ?_) (fun h => absurd (by decide) h)
      refine loop2 ds.length 0 m1 _ _ (by omega) ⟨?_, c2, ?_, fate_le _⟩ f15 f16 e77 e78 hF hLg hag
      · rw [h1]
        show _ = p
        rw [lst_of c2]; exact lst_congr (fun j hj => by rw [if_pos hj, lst_get hj])
      · rw [h2]; exact lst_congr (fun j hj => by rw [if_pos hj]; simp [fateC, replay]; rfl)
    | succ n ih =>
      intro i m1 l2 l3 hi h1 h2 f15 f16 e77 e78 hF hLg hag
      have hi12 : i < 12 := by omega
      have hcl := ni_cl (i := i) (by omega)
      have e73 : m1.2.1 73 = p := by rw [(hag 73 (by unfold gtS; omega)).2.1]; exact c1
      refine gX7_goThrough_12 (fun _ => ?_) (fun _ m2 e2 => ?_) (fun _ => ?_) (fun h => absurd h (n12 hi12)) (fun _ m2 e2 m3 e3 => ?_)
      · rw [h1, lst_len]; exact ni_in hi12 (by omega)
      · rw [e2, pm_rA, if_neg (by omega), h2, lst_len]; exact ni_in hi12 (by omega)
      · rw [e73, c2]; exact ni_in hi12 (by omega)
      · rw [nI_1]
        have x80 : m2.2.1 80 = m1.2.1 80 := by rw [e2, pm_rA, if_neg (by omega)]
        have F3 : m3.1 = m1.1 := by rw [e3, e2]; rfl
        refine ih (i + 1) m3 _ _ (by omega) ?_ ?_ (by rw [F3]; exact f15) (by rw [F3]; exact f16) ?_ ?_ (by rw [F3]; exact hF) (by rw [e3, e2]; exact hLg) ?_
        · rw [e3, pm_rA, if_neg (by omega), e2, pm_rA, if_pos rfl, hcl, e73, h1, lst_set hi12]
          refine lst_congr (fun j hj => ?_)
          by_cases e : j = i
          · rw [if_pos e, e, if_pos (by omega)]
          · rw [if_neg e]
            by_cases h : j < i
            · rw [if_pos h, if_pos (by omega)]
            · rw [if_neg h, if_neg (by omega)]
        · rw [e3, pm_rA, if_pos rfl, hcl, x80, h2, lst_set hi12]
          refine lst_congr (fun j hj => ?_)
          by_cases e : j = i
          · rw [if_pos e, e, if_pos (by omega)]
          · rw [if_neg e]
            by_cases h : j < i
            · rw [if_pos h, if_pos (by omega)]
            · rw [if_neg h, if_neg (by omega)]
        · rw [e3, pm_rA, if_neg (by omega), e2, pm_rA, if_neg (by omega)]; exact e77
        · rw [e3, pm_rA, if_neg (by omega), e2, pm_rA, if_neg (by omega)]; exact e78
        · rw [e3, e2]; exact ag_A (ag_A hag (by unfold gtS; omega)) (by unfold gtS; omega)
  refine gX7_goThrough_0 ?_
  intro m1 e1 m2 e2
  refine loop1 12 0 m2 _ _ rfl ?_ ?_ ?_ ?_ ?_ ?_ ?_ ?_ ?_
  · rw [e2, e1]
    show m.2.1 79 = _
    rw [lst_of l79]; exact lst_congr (fun j hj => by rw [if_neg (by omega), lst_get hj])
  · rw [e2, e1]
    show m.2.1 80 = _
    rw [lst_of l80]; exact lst_congr (fun j hj => by rw [if_neg (by omega), lst_get hj])
  · rw [e2, pm_rF, if_neg (by omega), e1, pm_rF, if_pos ⟨rfl, rfl⟩]
  · rw [e2, pm_rF, if_pos ⟨rfl, rfl⟩]
  · rw [e2, e1]; rfl
  · rw [e2, e1]; rfl
  · intro k h1 h2; rw [e2, pm_rF, if_neg (fun z => h2 z.2), e1, pm_rF, if_neg (fun z => h1 z.2)]
  · rw [e2, e1]; rfl
  · rw [e2, e1]; exact ag_F (ag_F (ag_refl _ _) (Or.inl rfl)) (Or.inl rfl)
end REF5

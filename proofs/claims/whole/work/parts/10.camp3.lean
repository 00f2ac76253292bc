theorem replay_day (L : Ld) (p : List Int32) (ds : List Nat) : (replay L p ds).2.1 ≤ ds.length := by
  have key : ∀ (ds : List Nat) (s : Cs), (ds.foldl (performC L) s).2.1 ≤ s.2.1 + ds.length := by
    intro ds
    induction ds with
    | nil => intro s; exact Nat.le_refl _
    | cons c ds ih =>
      intro s
      have h1 := ih (performC L s c)
      have h2 : (performC L s c).2.1 ≤ s.2.1 + 1 := by
        unfold performC
        split
        · show s.2.1 ≤ _; omega
        · split
          · show s.2.1 ≤ _; omega
          · show s.2.1 + 1 ≤ _; omega
      simp only [List.foldl_cons, List.length_cons]
      omega
  have := key ds (p, 0, 0, 0, 0)
  simpa [replay] using this
theorem replay_snoc (L : Ld) (p : List Int32) (ds : List Nat) (c : Nat) : replay L p (ds ++ [c]) = performC L (replay L p ds) c := by simp [replay]
theorem replay_ok {L : Ld} {p : List Int32} (hL6 : L.1 ≤ 6) (hp : p.length = 12) : ∀ (ds : List Nat), ds.length ≤ 40 → (∀ c ∈ ds, okDeed L c) → csOk (replay L p ds) := by
  have key : ∀ (ds : List Nat) (s : Cs), csOk s → s.2.1 + ds.length < 900 → (∀ c ∈ ds, okDeed L c) → csOk (ds.foldl (performC L) s) := by
    intro ds
    induction ds with
    | nil => intro s h _ _; exact h
    | cons c ds ih =>
      intro s h hl hc
      simp only [List.length_cons] at hl
      have hc0 := hc c List.mem_cons_self
      have h2 : (performC L s c).2.1 ≤ s.2.1 + 1 := by
        unfold performC
        split
        · show s.2.1 ≤ _; omega
        · split
          · show s.2.1 ≤ _; omega
          · show s.2.1 + 1 ≤ _; omega
      refine ih _ ?_ (by omega) (fun x hx => hc x (List.mem_cons_of_mem _ hx))
      unfold performC
      split
      · rcases hc0 with z | z | z
        · omega
        · omega
        · exact swapC_ok h (by omega) (by omega)
      · split
        · exact sayC_ok h
        · exact ⟨h.1, by show s.2.1 + 1 < 900; omega, h.2.2⟩
  intro ds hl hc
  exact key ds _ ⟨hp, by show 0 < 900; decide, by show 0 < 4096; decide, by show 0 < 4096; decide⟩ (by show 0 + ds.length < 900; omega) hc
section CAMP3
variable {d : Nat} {m : pmMem} {Q : Option Value → pmMem → Prop} {L : Ld} {s : Cs} {a h i j : Nat} {p : List Int32} {ds : List Nat}
theorem c_startAgain (c : pm_kd a = 0) (hl : campLen a m) (K : ∀ m', campM (m.2.1 (a + 1), 0, 0, 0, 0) a m' → m'.1 a 4 = 0 → m'.2.1 (a + 1) = m.2.1 (a + 1) → m'.2.1 (a + 3) = m.2.1 (a + 3) → ag (inC a) m m' → Q none m') : pm_G (d + 1) mX0_startAgain 0 [some (.ref a)] [] m Q := by
  obtain ⟨l1, l2, l3⟩ := hl
  refine gX0_startAgain_0 c (by rw [l1]; omega) (by rw [l2]; omega) ?_
  intro m1 e1 m2 e2 m3 e3 m4 e4 m5 e5 m6 e6
  subst e6; subst e5; subst e4; subst e3; subst e2
  have A : ∀ k, m1.2.1 k = if k = a + 2 then m.2.1 (a + 1) else m.2.1 k := by
    intro k
    rw [e1, pm_rA, cpy_all l1 l2]
  refine K _ ⟨?_, ?_, ?_, ?_, ?_, l1, by show 0 < 900; decide, by show 0 < 4096; decide, by show 0 < 4096; decide⟩ ?_ ?_ ?_ ?_
  · show m1.2.1 (a + 2) = _
    rw [A, if_pos rfl]
  · simp [pm_rF]; rfl
  · simp [pm_rF]
  · simp [pm_rF]; rfl
  · simp [pm_rF]; rfl
  · simp [pm_rF]
  · show m1.2.1 (a + 1) = _
    rw [A, if_neg (by omega)]
  · show m1.2.1 (a + 3) = _
    rw [A, if_neg (by omega)]
  · have z : ∀ k, a ≤ k → k < a + 4 → inC a k := fun k h1 h2 => ⟨h1, h2⟩
    refine ag_F (ag_F (ag_F (ag_F (ag_F ?_ ?_) ?_) ?_) ?_) ?_ <;> first | exact z _ (by omega) (by omega) | skip
    rw [e1]
    exact ag_A (ag_refl _ _) (z _ (by omega) (by omega))
theorem c_pitch {a1 : Nat} (c : pm_kd a = 0) (c1 : pm_kd a1 = 8) (hl : campLen a m) (hp : m.2.1 a1 = p) (hpl : p.length = 12) (K : ∀ m', campF p [] (replay L p []) a m' → ag (inC a) m m' → Q none m') : pm_G (d + 2) mX0_pitch 0 [some (.ref a), some (.ref a1)] [] m Q := by
  obtain ⟨l1, l2, l3⟩ := hl
  refine gX0_pitch_0 c c1 (by rw [hp, hpl]; omega) (by rw [l1]; omega) ?_
  intro m1 e1
  have A : ∀ k, m1.2.1 k = if k = a + 1 then p else m.2.1 k := by
    intro k
    rw [e1, pm_rA, hp, cpy_all hpl l1]
  have ag1 : ag (inC a) m m1 := by rw [e1]; exact ag_A (ag_refl _ _) ⟨by omega, by omega⟩
  refine c_startAgain c ⟨by rw [A, if_pos rfl]; exact hpl, by rw [A, if_neg (by omega)]; exact l2, by rw [A, if_neg (by omega)]; exact l3⟩ ?_
  intro m2 g1 g4 ga gb gag
  refine gX0_pitch_16 (K m2 ⟨?_, ?_, hpl, ?_, by simp, ?_, by simp⟩ (ag_trans ag1 gag))
  · rw [A, if_pos rfl] at g1; exact g1
  · rw [ga, A, if_pos rfl]
  · rw [g4]; rfl
  · rw [gb, A, if_neg (by omega)]; exact l3
theorem c_doAndNote {cd : Nat} (c : pm_kd a = 0) (hL : landM L m) (hF : campF p ds s a m) (h40 : ds.length < 40) (hc : okDeed L cd) (hd : s.2.1 + 1 < 900) (K : ∀ m', campF p (ds ++ [cd]) (performC L s cd) a m' → ag (inC a) m m' → Q none m') : pm_G (d + 4) mX0_doAndNote 0 [some (.ref a), some (.int (nI cd))] [] m Q := by
  obtain ⟨h1, h2, h3, h4, h5, h6, h7⟩ := hF
  have e40 : ¬ (40 : Int32) ≤ m.1 a 4 := by
    rw [h4]
    intro z
    have := (ni_le (a := 40) (by omega) (by omega)).mp z
    omega
  refine gX0_doAndNote_0 c (fun _ => ?_) (fun h => absurd h e40) (fun _ m1 e1 m2 e2 => ?_)
  · rw [h4, h6]; exact ni_in h40 (by omega)
  · have ag2 : ag (inC a) m m2 := by
      rw [e2, e1]
      exact ag_F (ag_A (ag_refl _ _) ⟨by omega, by omega⟩) ⟨by omega, by omega⟩
    have A : ∀ k, m2.2.1 k = if k = a + 3 then (m.2.1 (a + 3)).set ds.length (nI cd) else m.2.1 k := by
      intro k
      rw [e2, e1]
      show (pm_setA m (a + 3) _).2.1 k = _
      rw [pm_rA, h4, ni_cl (by omega)]
    have F : ∀ k, k ≠ 4 → m2.1 a k = m.1 a k := by
      intro k hk
      rw [e2, pm_rF, if_neg (fun z => hk z.2), e1]; rfl
    have F4 : m2.1 a 4 = nI (ds.length + 1) := by
      rw [e2, pm_rF, if_pos ⟨rfl, rfl⟩, e1]
      show m.1 a 4 + 1 = _
      rw [h4, nI_1]
    obtain ⟨s1, s2, s3, s4, s5, t⟩ := h1
    have hM : campM s a m2 := ⟨by rw [A, if_neg (by omega)]; exact s1, by rw [F 5 (by omega)]; exact s2, by rw [F 6 (by omega)]; exact s3, by rw [F 7 (by omega)]; exact s4, by rw [F 8 (by omega)]; exact s5, t⟩
    refine c_perform c (landM_in c hL ag2) hM hc hd ?_
    intro m3 g1 g4 ga gb gag
    refine gX0_doAndNote_34 (K m3 ⟨g1, ?_, h3, ?_, ?_, ?_, ?_⟩ (ag_trans ag2 gag))
    · rw [ga, A, if_neg (by omega)]; exact h2
    · rw [g4, F4]; simp
    · simp; omega
    · rw [gb, A, if_pos rfl, List.length_set]; exact h6
    · rw [gb, A, if_pos rfl]
      simp only [List.length_append, List.length_singleton, List.map_append, List.map_cons, List.map_nil]
      rw [List.take_add_one, List.take_set_of_le (by omega), h7]
      simp [h6, h40]
theorem c_goBackTo {n : Nat} {l2 : Option Value} (c : pm_kd a = 0) (hL : landM L m) (hF : campF p ds s a m) (hn : n ≤ ds.length) (hok : ∀ x ∈ ds, okDeed L x) (K : ∀ m', campF p (ds.take n) (replay L p (ds.take n)) a m' → ag (inC a) m m' → Q none m') : pm_G (d + 4) mX0_goBackTo 0 [some (.ref a), some (.int (nI n)), l2] [] m Q := by
  have hl := hF.len
  obtain ⟨h1, h2, h3, h4, h5, h6, h7⟩ := hF
  refine gX0_goBackTo_0 c (c_startAgain c hl ?_)
  intro m1 g1 g4 ga gb gag
  refine gX0_goBackTo_4 ?_
  have loop : ∀ (k i : Nat) (m2 : pmMem), i + k = n → campM (replay L p (ds.take i)) a m2 → m2.1 a 4 = nI i → m2.2.1 (a + 1) = p → m2.2.1 (a + 3) = m.2.1 (a + 3) → ag (inC a) m m2 → pm_G (d + 4) mX0_goBackTo 6 [some (.ref a), some (.int (nI n)), some (.int (nI i))] [] m2 Q := by
    intro k
    induction k with
    | zero =>
      intro i m2 hi f1 f4 fa fb fag
      have hin : i = n := by omega
      subst hin
      have le : nI i ≤ nI i := Int32.le_refl _
      refine gX0_goBackTo_6 c (fun h => absurd le h) (fun _ => K m2 ⟨f1, fa, h3, ?_, ?_, ?_, ?_⟩ fag) (fun h => absurd le h) (fun h => absurd le h)
      · rw [f4]; simp; rw [Nat.min_eq_left hn]
      · simp; omega
      · rw [fb]; exact h6
      · rw [fb, List.length_take, Nat.min_eq_left hn, List.map_take, ← h7, List.take_take, Nat.min_eq_left hn]
    | succ k ih =>
      intro i m2 hi f1 f4 fa fb fag
      have n1 : ¬ nI n ≤ nI i := fun z => by
        have := (ni_le (by omega) (by omega)).mp z
        omega
      have n2 : ¬ (40 : Int32) ≤ nI i := fun z => by
        have := (ni_le (a := 40) (by omega) (by omega)).mp z
        omega
      have hget : (m2.2.1 (a + 3)).getD (nI i).toNatClampNeg 0 = nI (ds.getD i 0) := by
        rw [fb, ni_cl (by omega), List.getD_eq_getElem?_getD, List.getD_eq_getElem?_getD]
        have e := congrArg (fun l => l[i]?) h7
        simp only [List.getElem?_take_of_lt (show i < ds.length by omega), List.getElem?_map] at e
        rw [e]
        have : i < ds.length := by omega
        simp [this]
      refine gX0_goBackTo_6 c (fun _ _ => ?_) (fun h => absurd h n1) (fun _ h => absurd h n2) (fun _ _ => ?_)
      · rw [fb, h6]; exact ni_in (by omega) (by omega)
      · rw [hget]
        have hmem : ds.getD i 0 ∈ ds := by
          rw [List.getD_eq_getElem?_getD, List.getElem?_eq_getElem (show i < ds.length by omega)]
          exact List.getElem_mem _
        have hday := replay_day L p (ds.take i)
        have hlen : (ds.take i).length = i := by rw [List.length_take]; omega
        refine c_perform c (landM_in c hL fag) f1 (hok _ hmem) (by omega) ?_
        intro m3 e1 e4 ea eb eag
        refine gX0_goBackTo_27 c ?_
        intro m4 q4
        rw [nI_1]
        have ag4 : ag (inC a) m m4 := by rw [q4]; exact ag_F (ag_trans fag eag) ⟨by omega, by omega⟩
        have F : ∀ k, k ≠ 4 → m4.1 a k = m3.1 a k := by
          intro k hk
          rw [q4, pm_rF, if_neg (fun z => hk z.2)]
        obtain ⟨s1, s2, s3, s4, s5, t⟩ := e1
        have etake : ds.take (i + 1) = ds.take i ++ [ds.getD i 0] := by
          rw [List.take_add_one, List.getD_eq_getElem?_getD, List.getElem?_eq_getElem (show i < ds.length by omega)]
          rfl
        refine ih (i + 1) m4 (by omega) ?_ ?_ ?_ ?_ ag4
        · rw [etake, replay_snoc]
          refine ⟨?_, ?_, ?_, ?_, ?_, t⟩
          · rw [q4]; exact s1
          · rw [F 5 (by omega)]; exact s2
          · rw [F 6 (by omega)]; exact s3
          · rw [F 7 (by omega)]; exact s4
          · rw [F 8 (by omega)]; exact s5
        · rw [q4, pm_rF, if_pos ⟨rfl, rfl⟩, e4, f4, nI_1]
        · rw [q4]; exact ea.trans fa
        · rw [q4]; exact eb.trans fb
  refine loop n 0 m1 (by omega) ?_ g4 (ga.trans h2) gb gag
  rw [h2] at g1
  exact g1
theorem c_take {a1 : Nat} (c : pm_kd a = 0) (c1 : pm_kd a1 = 0) (hap : a + 4 ≤ a1 ∨ a1 + 4 ≤ a) (hl : campLen a m) (hF : campF p ds s a1 m) (K : ∀ m', campF p ds s a m' → ag (inC a) m m' → Q none m') : pm_G (d + 1) mX0_take 0 [some (.ref a), some (.ref a1)] [] m Q := by
  obtain ⟨l1, l2, l3⟩ := hl
  have hl1 := hF.len
  obtain ⟨⟨s1, s2, s3, s4, s5, t⟩, h2, h3, h4, h5, h6, h7⟩ := hF
  obtain ⟨k1, k2, k3⟩ := hl1
  refine gX0_take_0 c1 c (by rw [k1]; omega) (by rw [l1]; omega) ?_ ?_ ?_ ?_ ?_
  · intro m1 e1
    rw [e1, pm_rA, if_neg (by omega), k2]; omega
  · intro m1 e1
    rw [e1, pm_rA, if_neg (by omega), l2]; omega
  · intro m1 e1 m2 e2
    rw [e2, pm_rA, if_neg (by omega), e1, pm_rA, if_neg (by omega), k3]; omega
  · intro m1 e1 m2 e2
    rw [e2, pm_rA, if_neg (by omega), e1, pm_rA, if_neg (by omega), l3]; omega
  · intro m1 e1 m2 e2 m3 e3 m4 e4 m5 e5 m6 e6 m7 e7 m8 e8
    have A1 : ∀ k, m1.2.1 k = if k = a + 1 then m.2.1 (a1 + 1) else m.2.1 k := by
      intro k; rw [e1, pm_rA, cpy_all k1 l1]
    have A2 : ∀ k, m2.2.1 k = if k = a + 2 then m.2.1 (a1 + 2) else m1.2.1 k := by
      intro k
      have x1 : m1.2.1 (a1 + 2) = m.2.1 (a1 + 2) := by rw [A1, if_neg (by omega)]
      have x2 : m1.2.1 (a + 2) = m.2.1 (a + 2) := by rw [A1, if_neg (by omega)]
      rw [e2, pm_rA, x1, x2, cpy_all k2 l2]
    have A3 : ∀ k, m3.2.1 k = if k = a + 3 then m.2.1 (a1 + 3) else m2.2.1 k := by
      intro k
      have x1 : m2.2.1 (a1 + 3) = m.2.1 (a1 + 3) := by rw [A2, if_neg (by omega), A1, if_neg (by omega)]
      have x2 : m2.2.1 (a + 3) = m.2.1 (a + 3) := by rw [A2, if_neg (by omega), A1, if_neg (by omega)]
      rw [e3, pm_rA, x1, x2, cpy_all k3 l3]
    have A8 : m8.2.1 = m3.2.1 := by rw [e8, e7, e6, e5, e4]; rfl
    have F3 : m3.1 = m.1 := by rw [e3, e2, e1]; rfl
    have o4 : ∀ k, m4.1 a1 k = m.1 a1 k := fun k => by rw [e4, pm_rF, if_neg (by omega), F3]
    have o5 : ∀ k, m5.1 a1 k = m.1 a1 k := fun k => by rw [e5, pm_rF, if_neg (by omega), o4]
    have o6 : ∀ k, m6.1 a1 k = m.1 a1 k := fun k => by rw [e6, pm_rF, if_neg (by omega), o5]
    have o7 : ∀ k, m7.1 a1 k = m.1 a1 k := fun k => by rw [e7, pm_rF, if_neg (by omega), o6]
    have z : ∀ k, a ≤ k → k < a + 4 → inC a k := fun k h1 h2 => ⟨h1, h2⟩
    have ag8 : ag (inC a) m m8 := by
      rw [e8, e7, e6, e5, e4, e3, e2, e1]
      exact ag_F (ag_F (ag_F (ag_F (ag_F (ag_A (ag_A (ag_A (ag_refl _ _) (z _ (by omega) (by omega))) (z _ (by omega) (by omega))) (z _ (by omega) (by omega))) (z _ (by omega) (by omega))) (z _ (by omega) (by omega))) (z _ (by omega) (by omega))) (z _ (by omega) (by omega))) (z _ (by omega) (by omega))
    have f8 : m8.1 a 8 = m.1 a1 8 := by rw [e8, pm_rF, if_pos ⟨rfl, rfl⟩, o7]
    have f7 : m8.1 a 7 = m.1 a1 7 := by rw [e8, pm_rF, if_neg (by omega), e7, pm_rF, if_pos ⟨rfl, rfl⟩, o6]
    have f6 : m8.1 a 6 = m.1 a1 6 := by rw [e8, pm_rF, if_neg (by omega), e7, pm_rF, if_neg (by omega), e6, pm_rF, if_pos ⟨rfl, rfl⟩, o5]
    have f5 : m8.1 a 5 = m.1 a1 5 := by rw [e8, pm_rF, if_neg (by omega), e7, pm_rF, if_neg (by omega), e6, pm_rF, if_neg (by omega), e5, pm_rF, if_pos ⟨rfl, rfl⟩, o4]
    have f4 : m8.1 a 4 = m.1 a1 4 := by rw [e8, pm_rF, if_neg (by omega), e7, pm_rF, if_neg (by omega), e6, pm_rF, if_neg (by omega), e5, pm_rF, if_neg (by omega), e4, pm_rF, if_pos ⟨rfl, rfl⟩, F3]
    have b1 : m8.2.1 (a + 1) = m.2.1 (a1 + 1) := by rw [A8, A3, if_neg (by omega), A2, if_neg (by omega), A1, if_pos rfl]
    have b2 : m8.2.1 (a + 2) = m.2.1 (a1 + 2) := by rw [A8, A3, if_neg (by omega), A2, if_pos rfl]
    have b3 : m8.2.1 (a + 3) = m.2.1 (a1 + 3) := by rw [A8, A3, if_pos rfl]
    refine K m8 ⟨⟨b2.trans s1, f5.trans s2, f6.trans s3, f7.trans s4, f8.trans s5, t⟩, b1.trans h2, h3, f4.trans h4, h5, ?_, ?_⟩ ag8
    · rw [b3]; exact h6
    · rw [b3]; exact h7
end CAMP3

/-! how many days till a word -/
def rotG (g : List Int32) (t : Nat) : List Int32 := lst12 (fun j => g.getD ((j + 12 - t) % 12) 0)
theorem rot0 {g : List Int32} (h : g.length = 12) : g = rotG g 0 := by
  have e := lst_of h
  refine Eq.trans e (lst_congr (fun j hj => ?_))
  rw [show (j + 12 - 0) % 12 = j by omega]
theorem round_get : ∀ (i : Nat) (s : Cs), i < 12 → s.1.length = 12 → (roundN i s).1.length = 12 ∧ (roundN i s).2.1 = s.2.1 ∧ ∀ j, j < 12 → (roundN i s).1.getD j 0 = if j = 0 then s.1.getD i 0 else if j ≤ i then s.1.getD (j - 1) 0 else s.1.getD j 0
  | 0, s, _, hl => ⟨hl, rfl, fun j hj => by
      show s.1.getD j 0 = _
      by_cases e : j = 0
      · rw [if_pos e, e]
      · rw [if_neg e, if_neg (by omega)]⟩
  | i + 1, s, hi, hl => by
    have l1 : (swapC s (i + 1) i).1.length = 12 := by show (swapG s.1 (i + 1) i).length = 12; unfold swapG; rw [List.length_set, List.length_set]; exact hl
    obtain ⟨a, b, c⟩ := round_get i (swapC s (i + 1) i) (by omega) l1
    refine ⟨a, b, fun j hj => ?_⟩
    show (roundN i (swapC s (i + 1) i)).1.getD j 0 = _
    rw [c j hj]
    have sg : ∀ q, q < 12 → (swapC s (i + 1) i).1.getD q 0 = if q = i then s.1.getD (i + 1) 0 else if q = i + 1 then s.1.getD i 0 else s.1.getD q 0 := by
      intro q hq
      show (swapG s.1 (i + 1) i).getD q 0 = _
      unfold swapG
      rw [getD_set (by rw [List.length_set, hl]; omega), getD_set (by rw [hl]; omega)]
    by_cases e0 : j = 0
    · rw [if_pos e0, if_pos e0, sg i (by omega), if_pos rfl]
    · rw [if_neg e0, if_neg e0]
      by_cases e1 : j ≤ i
      · rw [if_pos e1, if_pos (by omega), sg (j - 1) (by omega), if_neg (by omega), if_neg (by omega)]
      · rw [if_neg e1, sg j hj, if_neg (by omega)]
        by_cases e2 : j = i + 1
        · rw [if_pos e2, if_pos (by omega), e2, Nat.add_sub_cancel]
        · rw [if_neg e2, if_neg (by omega)]
theorem rot_step {g : List Int32} {s : Cs} {t : Nat} (ht : t < 12) (h : s.1 = rotG g t) : (roundN 11 s).1 = rotG g (t + 1) ∧ (roundN 11 s).2.1 = s.2.1 := by
  obtain ⟨a, b, c⟩ := round_get 11 s (by omega) (by rw [h]; exact lst_len _)
  refine ⟨?_, b⟩
  rw [lst_of a]
  refine lst_congr (fun j hj => ?_)
  rw [c j hj, h]
  unfold rotG
  by_cases e : j = 0
  · rw [if_pos e, lst_get (by omega)]
    have q : (11 + 12 - t) % 12 = (j + 12 - (t + 1)) % 12 := by omega
    rw [q]
  · rw [if_neg e, if_pos (by omega), lst_get (by omega)]
    have q : (j - 1 + 12 - t) % 12 = (j + 12 - (t + 1)) % 12 := by omega
    rw [q]
def waitF (p : Nat → Bool) : Nat → Nat → Int32
  | 0, _ => -9
  | n + 1, t => if p t then nI t else waitF p n (t + 1)
def wordAt (S : Sg) (h t : Nat) : Nat := wordI (sumS ((sL S).2 h).1 ((sL S).2 h).2.1 ((sL S).2 h).2.2 (rotG (sS S).1 t) ((sS S).2.1 + t))
def o_waits (S : Sg) (x w : Int32) : Int32 × Sg := match idx (sL S).1 x with
  | none => (-1, S)
  | some h => match idx 3 w with
    | none => (-1, S)
    | some k => (waitF (fun t => decide (wordAt S h t = k)) 12 0, S)
theorem rem12 : ∀ n, n < 24 → nI n - nI n / 12 * 12 = nI (n % 12) := by decide +kernel
/-- only the trial camp has changed -/
theorem RC_trial {S : Sg} {m m' : pmMem} (h : RC S m) (ha : ag (inC 20) m m') (hl : campLen 20 m') : RC S m' := by
  have h6 := h.2.2.2.2.2.1
  refine RC_upd h ha (Or.inl ⟨rfl, fun c _ _ z => by unfold inC at z; omega⟩) (Or.inl ⟨rfl, fun c _ _ z => by unfold inC at z; omega⟩) (Or.inl ⟨rfl, fun c _ _ z => by unfold inC at z; omega⟩) (Or.inl ⟨rfl, rfl, rfl, fun c _ _ z => by unfold inC at z; omega⟩) (Or.inl ⟨rfl, rfl, rfl, fun z => by unfold inC at z; omega, fun c _ _ z => by unfold inC at z; omega⟩) (Or.inr ?_) (Or.inl ⟨rfl, fun z => by unfold inC at z; omega⟩) (Or.inl ⟨rfl, fun z => by unfold inC at z; omega, fun z => by unfold inC at z; omega⟩) h.2.2.2.2.2.2.2.2
  have e : ∀ c, ¬ (20 ≤ c ∧ c < 24) → m'.2.1 c = m.2.1 c := fun c hc => (ha c (fun z => hc (by unfold inC at z; omega))).2.1
  refine ⟨?_, ?_, ?_, ?_, hl, ?_⟩
  · rw [e 4 (by omega)]; exact h6.1
  · rw [e 5 (by omega)]; exact h6.2.1
  · rw [e 6 (by omega)]; exact h6.2.2.1
  · rw [e 7 (by omega)]; exact h6.2.2.2.1
  · rw [e 27 (by omega), e 28 (by omega), e 29 (by omega), e 30 (by omega), e 31 (by omega)]; exact h6.2.2.2.2.2
theorem len_of_campF {p : List Int32} {ds : List Nat} {s : Cs} {a : Nat} {m : pmMem} (F : campF p ds s a m) : campLen a m := ⟨by rw [F.2.1]; exact F.2.2.1, by rw [F.1.1]; exact F.1.2.2.2.2.2.1, F.2.2.2.2.2.1⟩
section WAITS
variable {d : Nat} {m : pmMem} {Q : Option Value → pmMem → Prop} {S : Sg}
theorem c_trial (h : RC S m) (K : ∀ m', RC S m' → campF (sP S) (sD S) (sS S) 20 m' → ag (inC 20) m m' → Q none m') : pm_G (d + 1) mX0_take 0 [some (.ref 20), some (.ref 16)] [] m Q :=
  c_take rfl rfl (by omega) h.2.2.2.2.2.1.2.2.2.2.1 h.2.2.2.1 (fun m' a b => K m' (RC_trial h b (len_of_campF a)) a b)
theorem C_waits {x w : Int32} {l3 : Option Value} (h : RC S m) (K : okC (o_waits S x w) m Q) : pm_G (d + 5) mX6_waits 0 [some (.ref 0), some (.int x), some (.int w), l3] [] m Q := by
  have hL := h.2.2.1
  have hL6 := hL.2.1
  refine gX6_waits_0 (c_isHill hL (fun r hi hr hx => ?_) (fun hi => ?_))
  · simp only [o_waits, hi] at K
    refine gX6_waits_5 (fun z => absurd z (by decide)) (fun _ => c_isWord (fun k hi2 hk hw => ?_) (fun hi2 => ?_))
    · simp only [hi2] at K
      refine gX6_waits_12 (fun _ => c_trial h (fun m' h' hF hag => gX6_waits_28 ?_)) (fun z => absurd z (by decide))
      rw [hx, hw]
      have dd : (sS S).2.1 + 1 < 900 := day_lt h.2.2.2.1.2.2.2.2.1
      have d40 : (sS S).2.1 ≤ 40 := Nat.le_trans (replay_day _ _ _) h.2.2.2.1.2.2.2.2.1
      have loop : ∀ (n t : Nat) (m1 : pmMem) (s1 : Cs), t + n = 12 → RC S m1 → campM s1 20 m1 → s1.1 = rotG (sS S).1 t → s1.2.1 = (sS S).2.1 + t → ag (inC 20) m m1 → (∀ m2, RC S m2 → ag (inC 20) m m2 → Q (some (.int (waitF (fun t => decide (wordAt S r t = k)) n t))) m2) → pm_G (d + 5) mX6_waits 30 [some (.ref 0), some (.int (nI r)), some (.int (nI k)), some (.int (nI t))] [] m1 Q := by
        intro n
        induction n with
        | zero =>
          intro t m1 s1 ht h1 hs e1 e2 ha K1
          have h12 : t = 12 := by omega
          subst h12
          exact gX6_waits_30 (fun _ => K1 m1 h1 ha) (fun z => absurd (by decide) z)
        | succ n ih =>
          intro t m1 s1 ht h1 hs e1 e2 ha K1
          refine gX6_waits_30 (fun z => absurd z (n12 (by omega))) (fun _ => c_wordFrom rfl h1.2.2.1 hs hr ?_)
          have ew : wordC (sL S) s1 r = wordAt S r t := by unfold wordC sumC wordAt; rw [e1, e2]
          rw [ew]
          have w3 : wordAt S r t < 3 := wordI_lt _
          refine gX6_waits_44 ?_ ?_ <;> rw [ni_eq (by omega) (by omega)]
          · intro hne
            refine c_goRound rfl hs (fun m2 g1 g2 g3 g4 g5 => gX6_waits_57 (fun m3 e3 => ?_))
            obtain ⟨r1, r2⟩ := rot_step (by omega) e1
            generalize roundN 11 s1 = s2 at g1 r1 r2
            rw [g1.2.1, r2, e2, nI_1] at e3
            have a3 : ag (inC 20) m1 m3 := by rw [e3]; exact ag_F g5 (by unfold inC; omega)
            have hs3 : campM (dayC s2) 20 m3 := by
              obtain ⟨q1, q2, q3, q4, q5, q6⟩ := g1
              rw [e3]
              refine ⟨q1, ?_, ?_, ?_, ?_, ⟨q6.1, ?_, q6.2.2⟩⟩
              · rw [pm_rF, if_pos ⟨rfl, rfl⟩]; show _ = nI (s2.2.1 + 1); rw [r2, e2]
              · rw [pm_rF, if_neg (by omega)]; exact q3
              · rw [pm_rF, if_neg (by omega)]; exact q4
              · rw [pm_rF, if_neg (by omega)]; exact q5
              · show s2.2.1 + 1 < 900; rw [r2, e2]; omega
            have l1 := h1.2.2.2.2.2.1.2.2.2.2.1
            have h3 : RC S m3 := by
              refine RC_trial h1 a3 ⟨?_, ?_, ?_⟩
              · rw [e3]; show (m2.2.1 21).length = 12; rw [g3]; exact l1.1
              · rw [hs3.1]; exact hs3.2.2.2.2.2.1
              · rw [e3]; show (m2.2.1 23).length = 40; rw [g4]; exact l1.2.2
            rw [nI_1]
            refine ih (t + 1) m3 _ (by omega) h3 hs3 r1 ?_ (ag_trans ha a3) (fun m4 q1 q2 => ?_)
            · show s2.2.1 + 1 = _; rw [r2, e2]; omega
            · have := K1 m4 q1 q2
              simp only [waitF, decide_eq_true_eq, if_neg hne] at this
              exact this
          · intro heq
            have := K1 m1 h1 ha
            simp only [waitF, decide_eq_true_eq, if_pos heq] at this
            exact this
      refine loop 12 0 m' (sS S) (by omega) h' hF.1 (rot0 hF.1.2.2.2.2.2.1) rfl hag (fun m2 q1 q2 => K m2 q1 (ag_mono (fun c z => by unfold inC at z; omega) q2))
    · simp only [hi2] at K
      exact gX6_waits_12 (fun z => absurd rfl z) (fun _ => K m h (ag_refl _ _))
  · simp only [o_waits, hi] at K
    exact gX6_waits_5 (fun _ => K m h (ag_refl _ _)) (fun z => absurd rfl z)
theorem R_waits {x w : Int32} {l3 l4 : Option Value} (h : RR S m) (K : okR (o_waits S x w) m Q) : pm_G (d + 5) mX7_waits 0 [some (.ref 65), some (.int x), some (.int w), l3, l4] [] m Q := by
  have hL := h.2.2.1
  have hL6 := hL.2.1
  have hN := h.2.2.2.2.1
  have hs := h.2.2.2.2.2.2.1
  have d40 : (sS S).2.1 ≤ 40 := Nat.le_trans (replay_day _ _ _) h.2.2.2.1.2.2.2.1
  refine gX7_waits_0 (c7_isHill hL (fun r hi hr hx => ?_) (fun hi => ?_))
  · simp only [o_waits, hi] at K
    refine gX7_waits_5 (fun z => absurd z (by decide)) (fun _ => c7_in0 (n := 3) (by omega) (t64 w) rfl rfl (fun k hi2 hk hw => ?_) (fun hi2 => ?_))
    · simp only [hi2] at K
      rw [hx, hw]
      refine gX7_waits_17 (fun _ => ?_) (fun z => absurd z (by decide))
      have inner : ∀ (n i t : Nat) (m1 : pmMem), i + n = 12 → t < 12 → agA (fun c => c = 79) m m1 → m1.2.1 79 = lst12 (fun j => if j < i then (sS S).1.getD ((j + 12 - t) % 12) 0 else (m1.2.1 79).getD j 0) → (∀ m2, agA (fun c => c = 79) m m2 → m2.2.1 79 = rotG (sS S).1 t → pm_G (d + 5) mX7_waits 33 [some (.ref 65), some (.int (nI r)), some (.int (nI k)), some (.int (nI t)), some (.int (nI 12))] [] m2 Q) → pm_G (d + 5) mX7_waits 33 [some (.ref 65), some (.int (nI r)), some (.int (nI k)), some (.int (nI t)), some (.int (nI i))] [] m1 Q := by
        intro n
        induction n with
        | zero =>
          intro i t m1 hi ht ha e79 K1
          have h12 : i = 12 := by omega
          subst h12
          refine K1 m1 ha ?_
          rw [e79]
          exact lst_congr (fun j hj => by rw [if_pos hj])
        | succ n ih =>
          intro i t m1 hi ht ha e79 K1
          have l79 : (m1.2.1 79).length = 12 := by rw [e79]; exact lst_len _
          have e77 : m1.2.1 77 = (sS S).1 := by rw [ha.2.2 77 (by omega)]; exact hN.1
          have ix : ((nI i + 12) - nI t) - ((nI i + 12) - nI t) / 12 * 12 = nI ((i + 12 - t) % 12) := by
            rw [show nI i + 12 = nI (i + 12) from nI_add i 12, nI_sub (by omega)]
            exact rem12 _ (by omega)
          refine gX7_waits_33 (fun _ => by rw [l79]; exact ni_in (by omega) (by omega)) (fun _ => by rw [ix, e77, hN.2.2.2.2.1]; exact ni_in (by omega) (by omega)) (fun z => absurd z (n12 (by omega))) (fun _ m2 e2 => ?_)
          rw [ix, ni_cl (by omega), ni_cl (by omega), e77] at e2
          rw [nI_1]
          have x79 : m2.2.1 79 = (m1.2.1 79).set i ((sS S).1.getD ((i + 12 - t) % 12) 0) := by rw [e2, pm_rA, if_pos rfl]
          refine ih (i + 1) t m2 (by omega) ht (by rw [e2]; exact agA_A ha rfl) ?_ K1
          have l2 : (m2.2.1 79).length = 12 := by rw [x79, List.length_set]; exact l79
          refine Eq.trans (lst_of l2) (lst_congr (fun j hj => ?_))
          by_cases c : j < i + 1
          · rw [if_pos c, x79, getD_set (by omega)]
            by_cases e : j = i
            · rw [if_pos e, e]
            · rw [if_neg e, e79, lst_get hj, if_pos (by omega)]
          · rw [if_neg c]
      have loop : ∀ (n t : Nat) (m1 : pmMem) (l4 : Option Value), t + n = 12 → agA (fun c => c = 79) m m1 → (m1.2.1 79).length = 12 → (∀ m2, agA (fun c => c = 79) m m2 → (m2.2.1 79).length = 12 → Q (some (.int (waitF (fun t => decide (wordAt S r t = k)) n t))) m2) → pm_G (d + 5) mX7_waits 24 [some (.ref 65), some (.int (nI r)), some (.int (nI k)), some (.int (nI t)), l4] [] m1 Q := by
        intro n
        induction n with
        | zero =>
          intro t m1 l4 ht ha hl K1
          have h12 : t = 12 := by omega
          subst h12
          exact gX7_waits_24 (fun _ => K1 m1 ha hl) (fun z => absurd (by decide) z)
        | succ n ih =>
          intro t m1 l4 ht ha hl K1
          refine gX7_waits_24 (fun z => absurd z (n12 (by omega))) (fun _ => inner 12 0 t m1 (by omega) (by omega) ha ?_ (fun m2 a2 e79 => ?_))
          · refine Eq.trans (lst_of hl) (lst_congr (fun j hj => ?_))
            rw [if_neg (by omega)]
          · have f15 : m2.1 65 15 = nI (sS S).2.1 := by rw [a2.1]; exact hN.2.2.1
            have hL2 : landR (sL S) m2 := landR_scr hL (agA_mono (fun c z => Or.inl z) a2)
            have l2 : (rotG (sS S).1 t).length = 12 := lst_len _
            refine gX7_waits_33 (fun z => absurd (by decide) z) (fun z => absurd (by decide) z) (fun _ => ?_) (fun z => absurd (by decide) z)
            rw [f15, nI_add]
            refine c7_wordFrom hL2 e79 l2 hr (by omega) ?_
            rw [show wordI (sumS ((sL S).2 r).1 ((sL S).2 r).2.1 ((sL S).2 r).2.2 (rotG (sS S).1 t) ((sS S).2.1 + t)) = wordAt S r t from rfl]
            have w3 : wordAt S r t < 3 := wordI_lt _
            refine gX7_waits_79 ?_ ?_ <;> rw [ni_eq (by omega) (by omega)]
            · intro hne
              rw [nI_1]
              refine ih (t + 1) m2 _ (by omega) a2 (by rw [e79]; exact l2) (fun m4 q1 q2 => ?_)
              have := K1 m4 q1 q2
              simp only [waitF, decide_eq_true_eq, if_neg hne] at this
              exact this
            · intro heq
              have := K1 m2 a2 (by rw [e79]; exact l2)
              simp only [waitF, decide_eq_true_eq, if_pos heq] at this
              exact this
      refine loop 12 0 m l4 (by omega) (agA_refl _ _) hs.1 (fun m2 q1 q2 => K m2 (RR_scr h q1 (fun c z => by omega) ⟨q2, ?_⟩) (ag_mono (fun c z => by omega) q1.ag))
      rw [q1.2.2 80 (by omega), q1.2.2 82 (by omega), q1.2.2 83 (by omega), q1.2.2 84 (by omega), q1.2.2 85 (by omega), q1.2.2 86 (by omega)]
      exact hs.2
    · simp only [hi2] at K
      exact gX7_waits_17 (fun z => absurd rfl z) (fun _ => K m h (ag_refl _ _))
  · simp only [o_waits, hi] at K
    exact gX7_waits_5 (fun _ => K m h (ag_refl _ _)) (fun z => absurd rfl z)
end WAITS

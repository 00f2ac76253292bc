/-! what is seen from a hill, pure -/
def viewW (k b dy : Nat) : Nat := if k = 4 then 2 * b else if k = 3 ∧ dy % 2 = 1 then b / 2 else b
def isBa (k : Nat) : Bool := decide (k = 1) || decide (k = 4)
def isWo (k : Nat) : Bool := decide (k = 2) || decide (k = 5)
def seenB (k f b : Nat) (g : List Int32) (dy i : Nat) : Bool := decide (f ≤ i) && decide (i < 12) && decide (i < f + viewW k b dy) && (!isBa k || decide ((i - f) % 2 = 0)) && (!isWo k || !decide (g.getD i 0 < 0))
def seenS (k f b : Nat) (g : List Int32) (dy : Nat) : Nat := mkS (seenB k f b g dy) 12
theorem seenS_lt (k f b : Nat) (g : List Int32) (dy : Nat) : seenS k f b g dy < 4096 := mkS_lt _ 12
def sumL (k s : Nat) (g : List Int32) : Nat → Int32
  | 0 => 0
  | n + 1 => sumL k s g n + if s.testBit n then (if k = 5 then g.getD n 0 / 2 else g.getD n 0) else 0
def sumS (k f b : Nat) (g : List Int32) (dy : Nat) : Int32 := sumL k (seenS k f b g dy) g 12
def wordI (s : Int32) : Nat := if 0 < s then 1 else if s < 0 then 2 else 0
theorem wordI_lt (s : Int32) : wordI s < 3 := by unfold wordI; split; omega; split <;> omega
theorem i32_add0 (x : Int32) : x + 0 = x := by simp
theorem q_eq {Q : Option Value → pmMem → Prop} {m : pmMem} {x y : Int32} (h : Q (some (.int y)) m) (e : x = y) : Q (some (.int x)) m := e ▸ h
theorem ni_ne {k n : Nat} (h : ¬ nI k = nI n) : k ≠ n := fun z => h (by rw [z])
section HILL
variable {d : Nat} {m : pmMem} {Q : Option Value → pmMem → Prop}
theorem c_wordOf {x : Int32} (K : Q (some (.int (nI (wordI x)))) m) : pm_G d mX6_wordOf 0 [some (.int x)] [] m Q := by
  refine gX6_wordOf_0 ?_ ?_ ?_
  · intro h1 h2
    refine q_eq K ?_
    unfold wordI
    rw [if_neg (Int32.not_lt.mpr h1), if_neg (Int32.not_lt.mpr h2)]
    rfl
  · intro h1 h2
    refine q_eq K ?_
    unfold wordI
    rw [if_neg (Int32.not_lt.mpr h1), if_pos (Int32.not_le.mp h2)]
    rfl
  · intro h1
    refine q_eq K ?_
    unfold wordI
    rw [if_pos (Int32.not_le.mp h1)]
    rfl
theorem c_reachAs {a f b k dy : Nat} {l3 : Option Value} (c : pm_kd a = 1) (h1 : m.1 a 1 = nI f) (h2 : m.1 a 2 = nI b) (hf : f ≤ 12) (hb : b ≤ 9) (hk : k < 6) (hd : dy < 1000) (K : Q (some (.int (nI (min (viewW k b dy) (12 - f))))) m) : pm_G d mX1_reachAs 0 [some (.ref a), some (.int (nI k)), some (.int (nI dy)), l3] [] m Q := by
  have e1 : (12 : Int32) - m.1 a 1 = nI (12 - f) := by rw [h1]; exact pk_sub hf
  have e2 : nI dy - nI dy / 2 * 2 = nI (dy % 2) := pk_rem (d := 2) (by omega) (by omega) (by omega)
  have e3 : m.1 a 2 / 2 = nI (b / 2) := by rw [h2]; exact pk_div (d := 2) (by omega) (by omega) (by omega)
  have e4 : 2 * m.1 a 2 = nI (2 * b) := by rw [h2]; exact pk_mul 2 b
  have fin : ∀ x v : Nat, viewW k b dy = v → x = min v (12 - f) → Q (some (.int (nI x))) m := fun x v hv hx => by
    rw [hx, ← hv]; exact K
  refine gX1_reachAs_0 c ?_ ?_ ?_ ?_ ?_ ?_ ?_ ?_
  · intro h3 h4 h5
    have h3 := ni_ne (n := 4) h3
    have h4 := ni_ne (n := 3) h4
    rw [e1, h2, ni_le (by omega) (by omega)] at h5
    rw [e1]
    exact fin _ b (by simp [viewW, h3, h4]) (by omega)
  · intro h3 h4 h5
    have h3 := ni_ne (n := 4) h3
    have h4 := ni_ne (n := 3) h4
    rw [e1, h2, ni_le (by omega) (by omega)] at h5
    rw [h2]
    exact fin _ b (by simp [viewW, h3, h4]) (by omega)
  · intro h3 h4 h5 h6
    have h3 := ni_ne (n := 4) h3
    rw [e2] at h5
    have h5 : dy % 2 = 0 := (ni_eq (by omega) (by omega)).mp h5
    rw [e1, h2, ni_le (by omega) (by omega)] at h6
    rw [e1]
    exact fin _ b (by simp [viewW, h3, h5]) (by omega)
  · intro h3 h4 h5 h6
    have h3 := ni_ne (n := 4) h3
    rw [e2] at h5
    have h5 : dy % 2 = 0 := (ni_eq (by omega) (by omega)).mp h5
    rw [e1, h2, ni_le (by omega) (by omega)] at h6
    rw [h2]
    exact fin _ b (by simp [viewW, h3, h5]) (by omega)
  · intro h3 h4 h5 h6
    have h3 := ni_ne (n := 4) h3
    have h4 : k = 3 := (ni_eq (by omega) (by omega)).mp h4
    rw [e2] at h5
    have h5 := ni_ne (n := 0) h5
    have h7 : dy % 2 = 1 := by omega
    rw [e1, e3, ni_le (by omega) (by omega)] at h6
    rw [e1]
    exact fin _ (b / 2) (by simp [viewW, h4, h7]) (by omega)
  · intro h3 h4 h5 h6
    have h3 := ni_ne (n := 4) h3
    have h4 : k = 3 := (ni_eq (by omega) (by omega)).mp h4
    rw [e2] at h5
    have h5 := ni_ne (n := 0) h5
    have h7 : dy % 2 = 1 := by omega
    rw [e1, e3, ni_le (by omega) (by omega)] at h6
    rw [e3]
    exact fin _ (b / 2) (by simp [viewW, h4, h7]) (by omega)
  · intro h3 h4
    have h3 : k = 4 := (ni_eq (by omega) (by omega)).mp h3
    rw [e1, e4, ni_le (by omega) (by omega)] at h4
    rw [e1]
    exact fin _ (2 * b) (by simp [viewW, h3]) (by omega)
  · intro h3 h4
    have h3 : k = 4 := (ni_eq (by omega) (by omega)).mp h3
    rw [e1, e4, ni_le (by omega) (by omega)] at h4
    rw [e4]
    exact fin _ (2 * b) (by simp [viewW, h3]) (by omega)
/-- isOfKind against a kind 1, 2: bare, wooded -/
def okd (k o : Nat) : Bool := decide (k = o) || decide (o = 0) || (decide (k = 4) && decide (o = 1)) || (decide (k = 5) && decide (o = 2))
theorem okd_1 (k : Nat) : okd k 1 = isBa k := by
  unfold okd isBa
  by_cases h1 : k = 1 <;> by_cases h2 : k = 4 <;> simp [h1, h2]
theorem okd_2 (k : Nat) : okd k 2 = isWo k := by
  unfold okd isWo
  by_cases h1 : k = 2 <;> by_cases h2 : k = 5 <;> simp [h1, h2]
theorem c_isOfKind {k o : Nat} (hk : k < 6) (ho : o < 6) (K : Q (some (.int (nI (if okd k o then 1 else 0)))) m) : pm_G d mX6_isOfKind 0 [some (.int (nI k)), some (.int (nI o))] [] m Q := by
  have key : ∀ k, k < 6 → ∀ o, o < 6 → ∀ v : Fin 2, ((v = 1 ↔ okd k o = true) → (nI v.val = nI (if okd k o then 1 else 0))) := by decide +kernel
  have E : ∀ {a b : Nat}, a < 6 → b < 6 → (nI a = nI b ↔ a = b) := fun ha hb => ni_eq (by omega) (by omega)
  have t : okd k o = true → Q (some (.int 1)) m := fun h => by
    refine q_eq K ?_
    rw [h]; rfl
  have f : okd k o = false → Q (some (.int 0)) m := fun h => by
    refine q_eq K ?_
    rw [h]; rfl
  have z4 : (nI k = 4) ↔ k = 4 := E (b := 4) hk (by omega)
  have z5 : (nI k = 5) ↔ k = 5 := E (b := 5) hk (by omega)
  have y0 : (nI o = 0) ↔ o = 0 := E (b := 0) ho (by omega)
  have y1 : (nI o = 1) ↔ o = 1 := E (b := 1) ho (by omega)
  have y2 : (nI o = 2) ↔ o = 2 := E (b := 2) ho (by omega)
  have zz : (nI k = nI o) ↔ k = o := E hk ho
  refine gX6_isOfKind_0 ?_ ?_ ?_ ?_ ?_ ?_ ?_ ?_ ?_ <;> simp only [z4, z5, y0, y1, y2, zz]
  · intro h; exact t (by simp [okd, h])
  · intro h1 h2; exact t (by simp [okd, h2])
  · intro h1 h2 h3 h4; exact f (by simp [okd, h1, h2, h3, h4])
  · intro h1 h2 h3 h4 h5; exact f (by simp [okd, h1, h2, h3, h5])
  · intro h1 h2 h3 h4 h5; exact t (by simp [okd, h4, h5])
  · intro h1 h2 h3 h4; exact t (by simp [okd, h3, h4])
  · intro h1 h2 h3 h4 h5; exact f (by simp [okd, h1, h2, h4, h5])
  · intro h1 h2 h3 h4 h5 h6; omega
  · intro h1 h2 h3 h4 h5 h6; omega
theorem seen_step {k f b dy i : Nat} {g : List Int32} (hfi : f ≤ i) (hmod : (i - f) % (if isBa k then 2 else 1) = 0) : mkS (seenB k f b g dy) (i + (if isBa k then 2 else 1)) = mkS (seenB k f b g dy) i + if seenB k f b g dy i then 2 ^ i else 0 := by
  by_cases hb : isBa k
  · rw [if_pos hb] at hmod ⊢
    have e : seenB k f b g dy (i + 1) = false := by
      have : (i + 1 - f) % 2 = 1 := by omega
      simp [seenB, hb, this]
    simp [mkS, e]
  · rw [if_neg hb]
    simp [mkS]
/-- the loop of seenAs -/
theorem l_seenAs {a0 a2 k f b dy : Nat} {x1 x3 w : Int32} {g : List Int32} (c2 : pm_kd a2 = 8) (hg : m.2.1 a2 = g) (hgl : g.length = 12) (hw : w = 0 ↔ isWo k = false) (hf : f ≤ 12) (K : Q (some (.int (nI (seenS k f b g dy)))) m) :
    ∀ (n i : Nat), 14 ≤ i + n → i < 20 → f ≤ i → (i - f) % (if isBa k then 2 else 1) = 0 → pm_G d mX1_seenAs 44 [some (.ref a0), some (.int x1), some (.ref a2), some (.int x3), some (.int (nI (f + min (viewW k b dy) (12 - f)))), some (.int (nI (if isBa k then 2 else 1))), some (.int w), some (.int (nI (mkS (seenB k f b g dy) i))), some (.int (nI i))] [] m Q := by
  intro n
  have out : ∀ i, f + min (viewW k b dy) (12 - f) ≤ i → mkS (seenB k f b g dy) i = seenS k f b g dy := by
    intro i hi
    have e1 : mkS (seenB k f b g dy) i = mkS (seenB k f b g dy) (f + min (viewW k b dy) (12 - f)) := mkS_flat i hi (fun j h1 h2 => by
      by_cases hj : j < 12
      · have : ¬ j < f + viewW k b dy := by omega
        simp [seenB, this]
      · simp [seenB, hj])
    rw [e1, seenS]
    refine (mkS_flat 12 (by omega) (fun j h1 h2 => ?_)).symm
    have : ¬ j < f + viewW k b dy := by omega
    simp [seenB, this]
  induction n with
  | zero =>
    intro i hi h20 hfi hmod
    have he : nI (f + min (viewW k b dy) (12 - f)) ≤ nI i := (ni_le (by omega) (by omega)).mpr (by omega)
    refine gX1_seenAs_44 c2 (fun h => absurd he h) ?_ (fun h => absurd he h) (fun h => absurd he h) (fun h => absurd he h)
    intro _
    rw [out i (by omega)]
    exact K
  | succ n ih =>
    intro i hi h20 hfi hmod
    by_cases hx : f + min (viewW k b dy) (12 - f) ≤ i
    · have he : nI (f + min (viewW k b dy) (12 - f)) ≤ nI i := (ni_le (by omega) (by omega)).mpr hx
      refine gX1_seenAs_44 c2 (fun h => absurd he h) ?_ (fun h => absurd he h) (fun h => absurd he h) (fun h => absurd he h)
      intro _
      rw [out i hx]
      exact K
    · have he : ¬ nI (f + min (viewW k b dy) (12 - f)) ≤ nI i := fun z => hx ((ni_le (by omega) (by omega)).mp z)
      have hi12 : i < 12 := by omega
      have hst : (if isBa k then 2 else 1) ≤ 2 ∧ 1 ≤ (if isBa k then 2 else 1) := by split <;> omega
      have nx := ih (i + (if isBa k then 2 else 1)) (by omega) (by omega) (by omega) (by
        split
        · rename_i hb
          rw [if_pos hb] at hmod
          omega
        · omega)
      have ei : nI i + nI (if isBa k then 2 else 1) = nI (i + (if isBa k then 2 else 1)) := nI_add _ _
      have lt := mkS_lt (seenB k f b g dy) i
      have hor : nI (mkS (seenB k f b g dy) i) ||| ((1 : Int32) <<< (nI i &&& 31)) = nI (mkS (seenB k f b g dy) i + 2 ^ i) := by
        rw [ni_shl i (by omega), ni_or, or_add lt]
      have hpre : seenB k f b g dy i = (!isWo k || !decide (g.getD i 0 < 0)) := by
        have h1 : i < f + viewW k b dy := by omega
        have h2 : (!isBa k || decide ((i - f) % 2 = 0)) = true := by
          by_cases hb : isBa k
          · rw [if_pos hb] at hmod
            simp [hmod]
          · simp [hb]
        simp [seenB, hfi, hi12, h1, h2]
      have hcl := ni_cl (i := i) (by omega)
      refine gX1_seenAs_44 c2 (fun _ _ => ?_) (fun h => absurd h he) ?_ ?_ ?_
      · rw [hg, hgl]
        exact ni_in hi12 (by omega)
      · intro _ hw0
        have hp : seenB k f b g dy i = true := by rw [hpre, hw.mp hw0]; rfl
        rw [ei, hor]
        rw [seen_step hfi hmod, hp, if_pos rfl] at nx
        exact nx
      · intro _ hw0 hneg
        rw [hcl, hg] at hneg
        have hwo : isWo k = true := by
          cases h : isWo k
          · exact absurd (hw.mpr h) hw0
          · rfl
        have hp : seenB k f b g dy i = false := by rw [hpre, hwo, decide_eq_true hneg]; rfl
        rw [ei]
        rw [seen_step hfi hmod, hp, if_neg Bool.false_ne_true, Nat.add_zero] at nx
        exact nx
      · intro _ hw0 hneg
        rw [hcl, hg] at hneg
        have hp : seenB k f b g dy i = true := by rw [hpre, decide_eq_false hneg]; simp
        rw [ei, hor]
        rw [seen_step hfi hmod, hp, if_pos rfl] at nx
        exact nx
/-- what is seen from a hill, as one of kind k -/
theorem c_seenAs {a0 a2 f b k dy : Nat} {g : List Int32} {l4 l5 l6 l7 l8 : Option Value} (c0 : pm_kd a0 = 1) (c2 : pm_kd a2 = 8) (h1 : m.1 a0 1 = nI f) (h2 : m.1 a0 2 = nI b) (hg : m.2.1 a2 = g) (hgl : g.length = 12) (hf : f ≤ 12) (hb : b ≤ 9) (hk : k < 6) (hd : dy < 1000) (K : Q (some (.int (nI (seenS k f b g dy)))) m) : pm_G (d + 1) mX1_seenAs 0 [some (.ref a0), some (.int (nI k)), some (.ref a2), some (.int (nI dy)), l4, l5, l6, l7, l8] [] m Q := by
  refine gX1_seenAs_0 c0 (c_reachAs c0 h1 h2 hf hb hk hd ?_)
  refine gX1_seenAs_10 (c_isOfKind (o := 1) hk (by omega) ?_)
  rw [okd_1, h1, nI_add]
  have fin : ∀ w : Int32, (w = 0 ↔ isWo k = false) → pm_G (d + 1) mX1_seenAs 33 [some (.ref a0), some (.int (nI k)), some (.ref a2), some (.int (nI dy)), some (.int (nI (f + min (viewW k b dy) (12 - f)))), some (.int (nI (if isBa k then 2 else 1))), l6, l7, l8] [.int w] m Q := by
    intro w hw
    refine gX1_seenAs_33 c0 ?_
    rw [h1]
    have e0 : (0 : Int32) = nI (mkS (seenB k f b g dy) f) := by
      rw [mkS_flat (a := 0) f (by omega) (fun j _ h2 => by
        have : ¬ f ≤ j := by omega
        simp [seenB, this])]
      rfl
    rw [e0]
    exact l_seenAs c2 hg hgl hw hf K 14 f (by omega) (by omega) (Nat.le_refl _) (by simp)
  have hw2 : (nI (if isWo k then 1 else 0) = 0) ↔ isWo k = false := by
    cases isWo k <;> decide
  refine gX1_seenAs_18 ?_ ?_
  · intro h
    have hb1 : isBa k = false := by
      cases hh : isBa k
      · rfl
      · rw [hh] at h; exact absurd h (by decide)
    refine c_isOfKind (o := 2) hk (by omega) ?_
    have := fin (nI (if okd k 2 then 1 else 0)) (by rw [okd_2]; exact hw2)
    rw [hb1] at this
    exact this
  · intro h
    have hb1 : isBa k = true := by
      cases hh : isBa k
      · rw [hh] at h; exact absurd rfl h
      · rfl
    refine c_isOfKind (o := 2) hk (by omega) ?_
    have := fin (nI (if okd k 2 then 1 else 0)) (by rw [okd_2]; exact hw2)
    rw [hb1] at this
    exact this
theorem l_sumOf {a2 k s : Nat} {g : List Int32} (c2 : pm_kd a2 = 8) (hg : m.2.1 a2 = g) (hgl : g.length = 12) (hk : k < 6) (hs : s < 4096) (K : Q (some (.int (sumL k s g 12))) m) : ∀ (n i : Nat), i + n = 12 → pm_G d mX1_sumOf 5 [some (.int (nI k)), some (.int (nI s)), some (.ref a2), some (.int (sumL k s g i)), some (.int (nI i))] [] m Q := by
  intro n
  induction n with
  | zero =>
    intro i hi
    have h12 : i = 12 := by omega
    subst h12
    exact gX1_sumOf_5 c2 (fun h => absurd (by decide) h) (fun h => absurd (by decide) h) (fun _ => K) (fun h => absurd (by decide) h) (fun h => absurd (by decide) h) (fun h => absurd (by decide) h)
  | succ n ih =>
    intro i hi
    have hi12 : i < 12 := by omega
    have he : ¬ (12 : Int32) ≤ nI i := fun z => by
      have := (ni_le (a := 12) (by omega) (by omega)).mp z
      omega
    have hin : vp_in (nI i) (m.2.1 a2).length := by rw [hg, hgl]; exact ni_in hi12 (by omega)
    have nx := ih (i + 1) (by omega)
    have ei : nI i + 1 = nI (i + 1) := nI_1 i
    have hcl := ni_cl (i := i) (by omega)
    refine gX1_sumOf_5 c2 (fun _ _ _ => hin) (fun _ _ _ => hin) (fun h => absurd h he) ?_ ?_ ?_
    · intro _ hb
      rw [ni_bit0 (by omega) (by omega)] at hb
      rw [ei]
      simp only [sumL, hb] at nx
      simpa using nx
    · intro _ hb h5 v1 ev
      rw [ni_bit0 (by omega) (by omega)] at hb
      have h5 := ni_ne (n := 5) h5
      rw [ei, ev, hcl, hg]
      simp only [sumL] at nx
      rw [if_pos (by cases h : s.testBit i <;> simp_all), if_neg h5] at nx
      exact nx
    · intro _ hb h5 v1 ev
      rw [ni_bit0 (by omega) (by omega)] at hb
      have h5 : k = 5 := (ni_eq (by omega) (by omega)).mp h5
      rw [ei, ev, hcl, hg]
      simp only [sumL] at nx
      rw [if_pos (by cases h : s.testBit i <;> simp_all), if_pos h5] at nx
      exact nx
theorem c_sumOf {a2 k s : Nat} {g : List Int32} {l3 l4 : Option Value} (c2 : pm_kd a2 = 8) (hg : m.2.1 a2 = g) (hgl : g.length = 12) (hk : k < 6) (hs : s < 4096) (K : Q (some (.int (sumL k s g 12))) m) : pm_G d mX1_sumOf 0 [some (.int (nI k)), some (.int (nI s)), some (.ref a2), l3, l4] [] m Q :=
  gX1_sumOf_0 (l_sumOf c2 hg hgl hk hs K 12 0 rfl)
theorem c_sumAs {a0 a2 f b k dy : Nat} {g : List Int32} (c0 : pm_kd a0 = 1) (c2 : pm_kd a2 = 8) (h1 : m.1 a0 1 = nI f) (h2 : m.1 a0 2 = nI b) (hg : m.2.1 a2 = g) (hgl : g.length = 12) (hf : f ≤ 12) (hb : b ≤ 9) (hk : k < 6) (hd : dy < 1000) (K : Q (some (.int (sumS k f b g dy))) m) : pm_G (d + 2) mX1_sumAs 0 [some (.ref a0), some (.int (nI k)), some (.ref a2), some (.int (nI dy))] [] m Q := by
  refine gX1_sumAs_0 c0 (c_seenAs c0 c2 h1 h2 hg hgl hf hb hk hd ?_)
  refine gX1_sumAs_8 (c_sumOf c2 hg hgl hk (seenS_lt _ _ _ _ _) ?_)
  exact gX1_sumAs_12 K
end HILL

/-! how many hold -/
def cntB (p : Nat → Bool) : Nat → Nat
  | 0 => 0
  | n + 1 => cntB p n + if p n then 1 else 0
theorem cntB_le (p : Nat → Bool) : ∀ n, cntB p n ≤ n
  | 0 => Nat.le_refl _
  | n + 1 => by
    have := cntB_le p n
    simp only [cntB]
    split <;> omega
theorem cntB_congr {p q : Nat → Bool} : ∀ n, (∀ j, j < n → p j = q j) → cntB p n = cntB q n
  | 0, _ => rfl
  | n + 1, h => by simp only [cntB]; rw [cntB_congr n (fun j hj => h j (by omega)), h n (by omega)]
theorem pop_cntB (s : Nat) : ∀ n, pop s n = cntB (fun i => s.testBit i) n
  | 0 => rfl
  | n + 1 => by simp only [pop, cntB]; rw [pop_cntB s n]
theorem cnt_mkS (p : Nat → Bool) : cnt (mkS p 12) = cntB p 12 := by
  unfold cnt
  rw [pop_cntB]
  exact cntB_congr 12 (fun j hj => by rw [mkS_bit, decide_eq_true hj]; rfl)
theorem cnt_iv : ∀ f, f < 13 → ∀ w, w < 19 → cntB (fun i => decide (f ≤ i) && decide (i < 12) && decide (i < f + w)) 12 = min w (12 - f) := by decide +kernel
theorem cnt_dif {a b : Nat} (h : ∀ i, i < 12 → b.testBit i = true → a.testBit i = true) : cnt (dif a b) + cnt b = cnt a := by
  have key : ∀ n, n ≤ 12 → pop (dif a b) n + pop b n = pop a n := by
    intro n
    induction n with
    | zero => intro _; rfl
    | succ n ih =>
      intro hn
      have i1 := ih (by omega)
      simp only [pop, dif_bit]
      have := h n (by omega)
      cases ha : a.testBit n <;> cases hb : b.testBit n <;> simp_all <;> omega
  exact key 12 (Nat.le_refl _)
def vwB (k b : Nat) : Nat := if k = 4 then 2 * b else b
theorem cnt_view {k f b : Nat} (hf : f < 12) (hb : b ≤ 9) : cnt (mkS (viewB k f b) 12) = min (vwB k b) (12 - f) := by
  rw [cnt_mkS]
  have hw : vwB k b < 19 := by unfold vwB; split <;> omega
  exact cnt_iv f (by omega) _ hw
theorem seen_view {k f b dy : Nat} {g : List Int32} (hk : k ≠ 3) : ∀ i, i < 12 → (seenS k f b g dy).testBit i = true → (mkS (viewB k f b) 12).testBit i = true := by
  intro i hi
  unfold seenS
  rw [mkS_bit, mkS_bit]
  unfold seenB viewB viewW
  have : ¬ (k = 3 ∧ dy % 2 = 1) := fun z => hk z.1
  simp only [this, if_false]
  intro h
  simp only [Bool.and_eq_true] at h ⊢
  exact ⟨h.1, h.2.1.1⟩
theorem viewW_vwB {k b dy : Nat} (hk : k ≠ 3) : viewW k b dy = vwB k b := by
  unfold viewW vwB
  have : ¬ (k = 3 ∧ dy % 2 = 1) := fun z => hk z.1
  simp only [this, if_false]
def markF (L : Ld) (s : Cs) (h k : Nat) : Int32 := if k = 1 ∨ k = 2 then nI (cnt (dif (mkS (viewB (L.2 h).1 (L.2 h).2.1 (L.2 h).2.2) 12) (seenC L s h))) else if k = 3 then nI (min ((L.2 h).2.2 / 2) (12 - (L.2 h).2.1)) else if k = 4 then nI (2 * (L.2 h).2.2 - min (2 * (L.2 h).2.2) (12 - (L.2 h).2.1)) else sumS 2 (L.2 h).2.1 (L.2 h).2.2 s.1 s.2.1 - sumS 5 (L.2 h).2.1 (L.2 h).2.2 s.1 s.2.1
def o_mark (S : Sg) (x w : Int32) : Int32 × Sg := match idx (sL S).1 x with
  | none => (-1, S)
  | some h => match idx 6 w with
    | none => (-1, S)
    | some k => if k = 0 then (-1, S) else if okd ((sL S).2 h).1 k then (markF (sL S) (sS S) h k, S) else (-3, find S 3)
section MARK
variable {d : Nat} {m : pmMem} {Q : Option Value → pmMem → Prop} {S : Sg} {L : Ld} {s : Cs}
theorem c_markAs {h k : Nat} (hL : landM L m) (hs : campM s 16 m) (hh : h < L.1) (hk : k < 6) (hk0 : k ≠ 0) (ho : okd (L.2 h).1 k = true) (K : Q (some (.int (markF L s h k))) m) : pm_G (d + 3) mX1_markAs 0 [some (.ref (10 + h)), some (.int (nI k)), some (.ref 18), some (.int (m.1 16 5))] [] m Q := by
  have hL6 := hL.2.1
  obtain ⟨g0, g1, g2, g3, g4, g5, g6⟩ := hL.2.2 h hh
  have c := kd_hill (h := h) (by omega)
  have e18 : m.2.1 18 = s.1 := hs.1
  have gl : s.1.length = 12 := hs.2.2.2.2.2.1
  have hd : s.2.1 < 900 := hs.2.2.2.2.2.2.1
  rw [hs.2.1]
  have K12 : (k = 1 ∨ k = 2) → (L.2 h).1 ≠ 3 → Q (some (.int (nI (min (viewW (L.2 h).1 (L.2 h).2.2 s.2.1) (12 - (L.2 h).2.1)) - nI (cnt (seenC L s h))))) m := by
    intro hk12 h3
    simp only [markF, if_pos hk12] at K
    refine q_eq K ?_
    have e1 := cnt_view (k := (L.2 h).1) g4 g6
    have e2 := cnt_dif (seen_view (k := (L.2 h).1) (f := (L.2 h).2.1) (b := (L.2 h).2.2) (dy := s.2.1) (g := s.1) h3)
    rw [viewW_vwB h3, ← e1, ← e2, show seenS (L.2 h).1 (L.2 h).2.1 (L.2 h).2.2 s.1 s.2.1 = seenC L s h from rfl, nI_sub (by omega), Nat.add_sub_cancel]
  refine gX1_markAs_0 ?_
  have ks : k = 1 ∨ k = 2 ∨ k = 3 ∨ k = 4 ∨ k = 5 := by omega
  rcases ks with e | e | e | e | e <;> subst e
  · have h3 : (L.2 h).1 ≠ 3 := by intro z; rw [z] at ho; exact absurd ho (by decide)
    refine gX1_markAs_1_1 c ?_
    rw [g0]
    refine c_reachAs c g1 g2 (by omega) g6 g3 (by omega) (gX1_markAs_41 c ?_)
    rw [g0]
    exact c_seenAs c rfl g1 g2 e18 gl (by omega) g6 g3 (by omega) (gX1_markAs_51 (c_bitCount (seenS_lt _ _ _ _ _) (gX1_markAs_54 (K12 (Or.inl rfl) h3))))
  · have h3 : (L.2 h).1 ≠ 3 := by intro z; rw [z] at ho; exact absurd ho (by decide)
    refine gX1_markAs_1_2 c ?_
    rw [g0]
    refine c_reachAs c g1 g2 (by omega) g6 g3 (by omega) (gX1_markAs_41 c ?_)
    rw [g0]
    exact c_seenAs c rfl g1 g2 e18 gl (by omega) g6 g3 (by omega) (gX1_markAs_51 (c_bitCount (seenS_lt _ _ _ _ _) (gX1_markAs_54 (K12 (Or.inr rfl) h3))))
  · refine gX1_markAs_1_3 c ?_
    exact c_reachAs (k := 3) (dy := 1) c g1 g2 (by omega) g6 (by omega) (by omega) (gX1_markAs_62 K)
  · refine gX1_markAs_1_4 c ?_
    rw [g2, show (2 : Int32) = nI 2 from rfl, pk_mul]
    refine c_reachAs (k := 4) c g1 g2 (by omega) g6 (by omega) (by omega) (gX1_markAs_75 ?_)
    rw [nI_sub (by rw [show viewW 4 (L.2 h).2.2 s.2.1 = 2 * (L.2 h).2.2 from rfl]; omega)]
    exact K
  · refine gX1_markAs_1_d c (by decide) ?_
    exact c_sumAs (k := 2) c rfl g1 g2 e18 gl (by omega) g6 (by omega) (by omega) (gX1_markAs_84 c (c_sumAs (k := 5) c rfl g1 g2 e18 gl (by omega) g6 (by omega) (by omega) (gX1_markAs_91 K)))
theorem C_mark {x w : Int32} {l3 : Option Value} (h : RC S m) (K : okC (o_mark S x w) m Q) : pm_G (d + 5) mX6_mark 0 [some (.ref 0), some (.int x), some (.int w), l3] [] m Q := by
  have hL := h.2.2.1
  have hL6 := hL.2.1
  have e0 : (w ≤ 0) ↔ w.toInt ≤ 0 := i32_le' (n := 0) (by omega)
  have e6 : (w < 6) ↔ w.toInt < 6 := by rw [Int32.lt_iff_toInt_lt]; rfl
  refine gX6_mark_0 (c_isHill hL (fun r hi hr hx => ?_) (fun hi => ?_))
  · simp only [o_mark, hi] at K
    refine gX6_mark_5 ?_ (fun z => absurd z (by decide)) ?_ ?_ ?_ <;> simp only [e0, e6]
    · intro _ _ _; rw [hx]; exact ni_in (n := 6) (by omega) (by omega)
    · intro _ z
      by_cases w0 : w.toInt < 0
      · simp only [idx_none (n := 6) (x := w) (by omega)] at K
        exact K m h (ag_refl _ _)
      · obtain ⟨k, hi2, hk, hn⟩ := idx_some (n := 6) (x := w) (by omega) (by omega) (by omega)
        rw [hn, nI_toInt (by omega)] at z
        simp only [hi2, show k = 0 by omega, if_true] at K
        exact K m h (ag_refl _ _)
    · intro _ a b
      obtain ⟨k, hi2, hk, hn⟩ := idx_some (n := 6) (x := w) (by omega) (by omega) (by omega)
      have hk0 : k ≠ 0 := by intro z; rw [hn, nI_toInt (by omega)] at a; omega
      simp only [hi2, if_neg hk0] at K
      obtain ⟨g0, g1, g2, g3, g4, g5, g6⟩ := hL.2.2 r hr
      rw [hx, ra_hill (by omega), g0, hn]
      refine c_isOfKind g3 hk ?_
      cases ho : okd ((sL S).2 r).1 k with
      | true =>
        simp only [ho, if_true] at K
        exact gX6_mark_38 (kd_hill (by omega)) (fun _ => c_markAs hL h.2.2.2.1.1 hr hk hk0 ho (gX6_mark_66 (K m h (ag_refl _ _)))) (fun z => absurd z (by decide))
      | false =>
        rw [ho, if_neg (by decide)] at K
        exact gX6_mark_38 (kd_hill (by omega)) (fun z => absurd rfl z) (fun _ => c_refuse (f := 3) (by omega) (by omega) h (fun m' g1 g2 => gX6_mark_46 (K m' g1 g2)))
    · intro _ a z
      simp only [idx_none (n := 6) (x := w) (by omega)] at K
      exact K m h (ag_refl _ _)
  · simp only [o_mark, hi] at K
    exact gX6_mark_5 (fun z => absurd rfl z) (fun _ => K m h (ag_refl _ _)) (fun z => absurd rfl z) (fun z => absurd rfl z) (fun z => absurd rfl z)
theorem c7_markAs {h k : Nat} {x : Int32} {l5 : Option Value} {y4 : Int32} (hA : atR L s m) (hh : h < L.1) (hk : k < 6) (hk0 : k ≠ 0) (hx : x = nI h) (ho : okd (L.2 h).1 k = true) (K : Q (some (.int (markF L s h k))) m) : pm_G (d + 5) mX7_mark 80 [some (.ref 65), some (.int x), some (.int (nI k)), some (.int (nI (L.2 h).1)), some (.int y4), l5] [] m Q := by
  obtain ⟨hL, e79, e15, hcs⟩ := hA
  have hA : atR L s m := ⟨hL, e79, e15, hcs⟩
  have hL6 := hL.2.1
  obtain ⟨q1, q2, q3, q4, q5, q6⟩ := hL
  have hL : landR L m := ⟨q1, q2, q3, q4, q5, q6⟩
  obtain ⟨g0, g1, g2, g3, g4, g5, g6⟩ := q6 h hh
  have hd : s.2.1 < 900 := hcs.2.1
  have hcl : x.toNatClampNeg = h := by rw [hx]; exact ni_cl (by omega)
  have i71 : vp_in x (m.2.1 71).length := by rw [hx, q4]; exact ni_in (by omega) (by omega)
  have i72 : vp_in x (m.2.1 72).length := by rw [hx, q5]; exact ni_in (by omega) (by omega)
  refine gX7_mark_80 i72 i71 ?_
  rw [hcl, g1, g2]
  intro v1 ev
  have K12 : (k = 1 ∨ k = 2) → Q (some (.int (nI (cnt (dif (mkS (viewB (L.2 h).1 (L.2 h).2.1 (L.2 h).2.2) 12) (seenC L s h)))))) m := by
    intro hk12
    simp only [markF, if_pos hk12] at K
    exact K
  have ks : k = 1 ∨ k = 2 ∨ k = 3 ∨ k = 4 ∨ k = 5 := by omega
  rcases ks with e | e | e | e | e <;> subst e
  · refine gX7_mark_101_1 i72 i71 ?_
    rw [hcl, g1, g2, hx]
    refine c7_view g3 g4 g6 (gX7_mark_148 (c7_seenFromS hA hh (gX7_mark_157 ?_)))
    rw [ni_andn]
    exact c7_ones (dif_lt (mkS_lt _ 12)) (gX7_mark_163 (K12 (Or.inl rfl)))
  · refine gX7_mark_101_2 i72 i71 ?_
    rw [hcl, g1, g2, hx]
    refine c7_view g3 g4 g6 (gX7_mark_148 (c7_seenFromS hA hh (gX7_mark_157 ?_)))
    rw [ni_andn]
    exact c7_ones (dif_lt (mkS_lt _ 12)) (gX7_mark_163 (K12 (Or.inr rfl)))
  · refine gX7_mark_101_3 ?_
    rw [hx]
    refine c7_seenFrom (dy := 1) hL e79 hcs.1 hh (by omega) (gX7_mark_170 (c7_ones (seenS_lt _ _ _ _ _) (gX7_mark_173 ?_)))
    refine q_eq K ?_
    have h3 : (L.2 h).1 = 3 := by
      unfold okd at ho
      simp at ho
      omega
    rw [h3]
    symm
    show nI (min ((L.2 h).2.2 / 2) (12 - (L.2 h).2.1)) = _
    refine congrArg nI ?_
    unfold seenS
    rw [cnt_mkS, ← cnt_iv (L.2 h).2.1 (by omega) ((L.2 h).2.2 / 2) (by omega)]
    refine cntB_congr 12 (fun j hj => ?_)
    simp [seenB, isBa, isWo, viewW]
  · have e4 : v1 ≤ 0 ↔ v1.toInt ≤ 0 := i32_le' (n := 0) (by omega)
    have ev2 : v1.toInt = ((L.2 h).2.1 : Int) + 2 * ((L.2 h).2.2 : Int) - 12 := by
      rw [ev, show (2 : Int32) = nI 2 from rfl, pk_mul, nI_add, Int32.toInt_sub, nI_toInt (by omega), show (12 : Int32).toInt = 12 from rfl, Int.bmod_eq_of_le (by omega) (by omega)]
      omega
    refine gX7_mark_101_4 ?_ ?_ <;> rw [e4, ev2]
    · intro z
      refine q_eq K ?_
      symm
      show nI (2 * (L.2 h).2.2 - min (2 * (L.2 h).2.2) (12 - (L.2 h).2.1)) = 0
      rw [show 2 * (L.2 h).2.2 - min (2 * (L.2 h).2.2) (12 - (L.2 h).2.1) = 0 by omega]; rfl
    · intro z
      refine q_eq K ?_
      symm
      show nI (2 * (L.2 h).2.2 - min (2 * (L.2 h).2.2) (12 - (L.2 h).2.1)) = v1
      rw [ev, show (2 : Int32) = nI 2 from rfl, pk_mul, nI_add, show (12 : Int32) = nI 12 from rfl, nI_sub (by omega)]
      exact congrArg nI (by omega)
  · refine gX7_mark_101_d (by decide) i72 i71 ?_
    rw [hcl, g1, g2, hx, e15]
    have h5 : (L.2 h).1 = 5 := by
      unfold okd at ho
      simp at ho
      omega
    refine c7_sumBy (k := 2) (by omega) g4 g6 (by omega) e79 hcs.1 (gX7_mark_207 (c7_sumFromS hA hh (gX7_mark_216 ?_)))
    refine q_eq K ?_
    unfold markF sumC
    rw [if_neg (by decide), if_neg (by decide), if_neg (by decide), h5]
theorem R_mark {x w : Int32} {l3 l4 l5 : Option Value} (h : RR S m) (K : okR (o_mark S x w) m Q) : pm_G (d + 5) mX7_mark 0 [some (.ref 65), some (.int x), some (.int w), l3, l4, l5] [] m Q := by
  have hL := h.2.2.1
  have hL6 := hL.2.1
  refine gX7_mark_0 (c7_isHill hL (fun r hi hr hx => ?_) (fun hi => ?_))
  · simp only [o_mark, hi] at K
    refine gX7_mark_5 (fun z => absurd z (by decide)) (fun _ => c7_in (fun h1 h2 => ?_) (fun hn => ?_))
    · rw [t64, show (1 : Int64).toInt = 1 from rfl] at h1
      rw [t64, n64_5] at h2
      obtain ⟨k, hi2, hk, hn⟩ := idx_some (n := 6) (x := w) (by omega) (by omega) (by omega)
      have hk0 : k ≠ 0 := by intro z; rw [hn, nI_toInt (by omega)] at h1; omega
      simp only [hi2, if_neg hk0] at K
      obtain ⟨g0, g1, g2, g3, g4, g5, g6⟩ := hL.2.2.2.2.2 r hr
      have hcl : x.toNatClampNeg = r := by rw [hx]; exact ni_cl (by omega)
      have w1 : w = 1 ↔ k = 1 := by rw [hn]; exact ni_eq (b := 1) (by omega) (by omega)
      have w2 : w = 2 ↔ k = 2 := by rw [hn]; exact ni_eq (b := 2) (by omega) (by omega)
      have wk : (nI ((sL S).2 r).1 = w) ↔ ((sL S).2 r).1 = k := by rw [hn]; exact ni_eq (by omega) (by omega)
      have good : ∀ (y : Int32) (l5 : Option Value), okd ((sL S).2 r).1 k = true → pm_G (d + 4) mX7_aside 0 [some (.ref 65), none] [] m (fun q m' => pm_G (d + 5) mX7_mark 80 [some (.ref 65), some (.int x), some (.int w), some (.int (nI ((sL S).2 r).1)), some (.int y), l5] (pm_psh q []) m' Q) := by
        intro y l5 ho
        simp only [ho, if_true] at K
        refine c7_asideS h (fun m' h' hG hA hb => ?_)
        rw [hn]
        exact c7_markAs hA hr hk hk0 hx ho (K m' h' hb)
      have bad : ∀ (y : Int32) (l5 : Option Value), okd ((sL S).2 r).1 k = false → pm_G (d + 4) mX7_find 0 [some (.ref 65), some (.int 3)] [] m (fun q m' => pm_G (d + 5) mX7_mark 75 [some (.ref 65), some (.int x), some (.int w), some (.int (nI ((sL S).2 r).1)), some (.int y), l5] (pm_psh q []) m' Q) := by
        intro y l5 ho
        rw [ho, if_neg (by decide)] at K
        exact c7_find (f := 3) (by omega) (by omega) h (fun m' g1 g2 => gX7_mark_75 (K m' g1 g2))
      refine gX7_mark_17 (fun _ => by rw [hx, hL.2.2.1]; exact ni_in (by omega) (by omega)) ?_ ?_ ?_ ?_ (fun z => absurd z (by decide)) <;> rw [hcl, g0] <;> simp only [w1, w2, wk]
      · intro _ z1 z2 z3
        refine bad _ _ ?_
        unfold okd
        have : k = 3 ∨ k = 4 ∨ k = 5 := by omega
        rcases this with e | e | e <;> subst e <;> simp [z3]
      · intro _ z1 z2 z3
        refine good _ _ ?_
        unfold okd; simp [z3]
      · intro _ z1 z2
        subst z2
        refine c7_isWooded g3 ?_
        rw [← okd_2]
        cases ho : okd ((sL S).2 r).1 2 with
        | true => exact gX7_mark_50 (fun _ => good _ _ ho) (fun z => absurd z (by decide))
        | false => exact gX7_mark_50 (fun z => absurd rfl z) (fun _ => bad _ _ ho)
      · intro _ z1
        subst z1
        refine c7_isBare g3 ?_
        rw [← okd_1]
        cases ho : okd ((sL S).2 r).1 1 with
        | true => exact gX7_mark_38 (fun _ => good _ _ ho) (fun z => absurd z (by decide))
        | false => exact gX7_mark_38 (fun z => absurd rfl z) (fun _ => bad _ _ ho)
    · rw [t64, show (1 : Int64).toInt = 1 from rfl, n64_5] at hn
      refine gX7_mark_17 (fun z => absurd rfl z) (fun z => absurd rfl z) (fun z => absurd rfl z) (fun z => absurd rfl z) (fun z => absurd rfl z) (fun _ => ?_)
      by_cases w0 : w.toInt = 0
      · obtain ⟨k, hi2, hk, hn2⟩ := idx_some (n := 6) (x := w) (by omega) (by omega) (by omega)
        rw [hn2, nI_toInt (by omega)] at w0
        simp only [hi2, show k = 0 by omega, if_true] at K
        exact K m h (ag_refl _ _)
      · simp only [idx_none (n := 6) (x := w) (by omega)] at K
        exact K m h (ag_refl _ _)
  · simp only [o_mark, hi] at K
    exact gX7_mark_5 (fun _ => K m h (ag_refl _ _)) (fun z => absurd rfl z)
end MARK
